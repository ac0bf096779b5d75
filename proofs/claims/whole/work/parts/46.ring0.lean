/-! THE FIRST RING: what it must be -/
def zUR (N L : Nat) (a b : Nat → Nat) (g : Nat) (x : Nat → Nat) : Prop :=
  1 ≤ g ∧ x 0 < N ∧ (∀ i, 0 < i → i < g → x 0 < x i ∧ x i < N) ∧ (∀ i j, i < j → j < g → x i ≠ x j) ∧ (∀ i, i + 1 < g → zjn L a b (x i) (x (i + 1)) ≠ 0) ∧ (if g = 2 then 1 else 0) < zjn L a b (x (g - 1)) (x 0)
def zlex (g : Nat) (x y : Nat → Nat) : Prop := (∀ i, i < g → x i = y i) ∨ ∃ i, i < g ∧ (∀ j, j < i → x j = y j) ∧ x i < y i
def zFst (N L : Nat) (a b : Nat → Nat) (g : Nat) (x : Nat → Nat) : Prop := zUR N L a b g x ∧ ∀ y, zUR N L a b g y → zlex g x y
theorem zFst_u {N L : Nat} {a b : Nat → Nat} {g : Nat} {x y : Nat → Nat} (h : zFst N L a b g x) (h' : zFst N L a b g y) : ∀ i, i < g → x i = y i := by
  rcases h.2 y h'.1 with h1 | ⟨i, i1, i2, i3⟩
  · exact h1
  · rcases h'.2 x h.1 with h2 | ⟨j, j1, j2, j3⟩
    · exact fun k hk => (h2 k hk).symm
    · exfalso
      rcases Nat.lt_trichotomy i j with c | c | c
      · have := j2 i c; omega
      · subst c; omega
      · have := i2 j c; omega
theorem zlinks {N L : Nat} {a b : Nat → Nat} (hab : ∀ l, l < L → a l < N ∧ b l < N) {n : Nat} {x : Nat → Nat} (h : ∀ i, i < n → zjn L a b (x i) (x (i + 1)) ≠ 0) : ∃ le : Nat → Nat, ∀ i, i < n → zJ N L a b (le i) (x i) (x (i + 1)) := by
  have : ∀ i, ∃ l, i < n → zJ N L a b l (x i) (x (i + 1)) := by
    intro i
    by_cases hi : i < n
    · obtain ⟨l, hl⟩ := (zjn_pos hab).mp (h i hi)
      exact ⟨l, fun _ => hl⟩
    · exact ⟨0, fun h => absurd h hi⟩
  exact Classical.axiomOfChoice this
/-- the shortest closed walk passes no node twice -/
theorem zTW_simple {N L : Nat} {a b : Nat → Nat} {r k : Nat} {c le : Nat → Nat} (k1 : 1 ≤ k) (c0 : c 0 = r) (ck : c k = r) (cj : ∀ i, i < k → zJ N L a b (le i) (c i) (c (i + 1))) (ci : ∀ i, 0 < i → i < k → c i ≠ r) (cf : 2 ≤ k → le 0 ≠ le (k - 1)) (hmin : ∀ r' k', zTW N L a b r' k' → k ≤ k') : ∀ i j, i < j → j < k → c i ≠ c j := by
  -- no step back
  have nb : ∀ i, i + 2 ≤ k → le i ≠ le (i + 1) := by
    intro i hi e
    have j1 := cj i (by omega)
    have j2 := cj (i + 1) (by omega)
    rw [← e] at j2
    have e2 : c i = c (i + 1 + 1) := zJ_other (zJ_sym j1) j2
    by_cases h0 : i = 0
    · subst h0
      by_cases hk2 : k = 2
      · subst hk2; exact cf (by omega) e
      · exact ci 2 (by omega) (by omega) (by rw [← c0]; exact e2.symm)
    · by_cases hk2 : i + 2 = k
      · exact ci i (by omega) (by omega) (by rw [e2, show i + 1 + 1 = k by omega]; exact ck)
      · have : zTW N L a b r (k - 2) := by
          refine ⟨by omega, fun t => if t ≤ i then c t else c (t + 2), fun t => if t < i then le t else le (t + 2), ?_, ?_, ?_, ?_, ?_⟩
          · show (if 0 ≤ i then c 0 else _) = r
            rw [if_pos (by omega), c0]
          · show (if k - 2 ≤ i then c (k - 2) else c (k - 2 + 2)) = r
            rw [if_neg (by omega), show k - 2 + 2 = k by omega, ck]
          · intro t ht
            show zJ N L a b (if t < i then le t else le (t + 2)) (if t ≤ i then c t else c (t + 2)) (if t + 1 ≤ i then c (t + 1) else c (t + 1 + 2))
            by_cases h1 : t < i
            · rw [if_pos h1, if_pos (by omega), if_pos (by omega)]; exact cj t (by omega)
            · rw [if_neg h1, if_neg (show ¬ t + 1 ≤ i by omega)]
              have := cj (t + 2) (by omega)
              by_cases h2 : t = i
              · subst h2; rw [if_pos (by omega), e2]; exact this
              · rw [if_neg (by omega)]; exact this
          · intro t h1 h2
            show (if t ≤ i then c t else c (t + 2)) ≠ r
            split
            · exact ci t h1 (by omega)
            · exact ci (t + 2) (by omega) (by omega)
          · intro h2
            show (if 0 < i then le 0 else le (0 + 2)) ≠ (if k - 2 - 1 < i then le (k - 2 - 1) else le (k - 2 - 1 + 2))
            rw [if_pos (by omega)]
            by_cases h3 : k - 2 - 1 < i
            · omega
            · rw [if_neg h3, show k - 2 - 1 + 2 = k - 1 by omega]; exact cf (by omega)
        have := hmin r (k - 2) this
        omega
  have key : ∀ n i j, j = i + n → 0 < n → j < k → c i ≠ c j := by
    intro n
    induction n using Nat.strongRecOn with
    | _ n ih =>
      intro i j hj hn hjk e
      by_cases h0 : i = 0
      · subst h0; exact ci j (by omega) hjk (by rw [← e, c0])
      · have : zTW N L a b (c i) n := by
          refine ⟨hn, fun t => c (i + t), fun t => le (i + t), rfl, by show c (i + n) = c i; rw [← hj]; exact e.symm, fun t ht => cj (i + t) (by omega), fun t h1 h2 e' => ?_, fun h2 e' => ?_⟩
          · exact ih t h2 i (i + t) rfl h1 (by omega) e'.symm
          · have e'' : le i = le (j - 1) := by
              have e4 : le i = le (i + (n - 1)) := e'
              rw [show i + (n - 1) = j - 1 by omega] at e4
              exact e4
            have j1 := cj i (by omega)
            have j2 := cj (j - 1) (by omega)
            rw [show j - 1 + 1 = j by omega, ← e'', ← e] at j2
            have e3 : c (i + 1) = c (j - 1) := zJ_other j1 (zJ_sym j2)
            by_cases h3 : n = 2
            · exact nb i (by omega) (by rw [e'', show j - 1 = i + 1 by omega])
            · exact ih (n - 2) (by omega) (i + 1) (j - 1) (by omega) (by omega) (by omega) e3
        have := hmin _ _ this
        omega
  intro i j hij hj
  exact key (j - i) i j (by omega) (by omega) hj
/-- distinct nodes are at most N -/
theorem zpig {N k : Nat} {c : Nat → Nat} (hc : ∀ i, i < k → c i < N) (hd : ∀ i j, i < j → j < k → c i ≠ c j) : k ≤ N := by
  rcases Nat.lt_or_ge N k with h | h
  · exfalso
    have : ∀ (n N : Nat) (P : Nat → Bool) (c : Nat → Nat), (∀ i, i < n → c i < N ∧ P (c i) = true) → (∀ i j, i < j → j < n → c i ≠ c j) → n ≤ zcnt P N := by
      intro n
      induction n with
      | zero => intro N P c _ _; omega
      | succ n ih =>
        intro N P c h1 h2
        have h3 := h1 n (by omega)
        have h4 := ih N (fun v => P v && decide (v ≠ c n)) c (fun i hi => ⟨(h1 i (by omega)).1, by simp [(h1 i (by omega)).2, h2 i n hi (by omega)]⟩) (fun i j hij hj => h2 i j hij (by omega))
        have h5 := zcnt_up (P := fun v => P v && decide (v ≠ c n)) (Q := P) N (c n) h3.1 (by simp) h3.2 (fun w _ hw => by simp [hw])
        omega
    have h1 := this k N (fun _ => true) c (fun i hi => ⟨hc i hi, rfl⟩) hd
    have h2 := zcnt_le (P := fun _ => true) N
    omega
  · exact h
theorem zjn_two {L : Nat} {a b : Nat → Nat} {u v l l' : Nat} (hl : l < L) (hl' : l' < L) (hne : l ≠ l') (h : (a l = u ∧ b l = v) ∨ (a l = v ∧ b l = u)) (h' : (a l' = u ∧ b l' = v) ∨ (a l' = v ∧ b l' = u)) : 2 ≤ zjn L a b u v := by
  induction L with
  | zero => omega
  | succ L ih =>
    rw [zjn_succ]
    have one : ∀ m, m < L → ((a m = u ∧ b m = v) ∨ (a m = v ∧ b m = u)) → 1 ≤ zjn L a b u v := by
      intro m hm hh
      have : ∀ n, m < n → 1 ≤ zjn n a b u v := by
        intro n
        induction n with
        | zero => intro h; omega
        | succ n ih2 =>
          intro h
          rw [zjn_succ]
          by_cases e : m = n
          · subst e; rw [if_pos hh]; omega
          · have := ih2 (by omega); omega
      exact this L hm
    by_cases e : l = L
    · subst e
      have := one l' (by omega) h'
      rw [if_pos h]; omega
    · by_cases e' : l' = L
      · subst e'
        have := one l (by omega) h
        rw [if_pos h']; omega
      · have := ih (by omega) (by omega)
        omega
/-- the shortest closed walk, turned so that its least node comes first -/
theorem zUR_ex {N L : Nat} {a b : Nat → Nat} (hab : ∀ l, l < L → a l < N ∧ b l < N) {r k : Nat} (h : zTW N L a b r k) (hmin : ∀ r' k', zTW N L a b r' k' → k ≤ k') : k ≤ N ∧ ∃ x, zUR N L a b k x := by
  obtain ⟨k1, c, le, c0, ck, cj, ci, cf⟩ := h
  have hs := zTW_simple k1 c0 ck cj ci cf hmin
  have hcN : ∀ i, i < k → c i < N := fun i hi => (cj i hi).2.1
  refine ⟨zpig hcN hs, ?_⟩
  have least : ∀ n, 1 ≤ n → ∃ m, m < n ∧ ∀ i, i < n → c m ≤ c i := by
    intro n
    induction n with
    | zero => intro h; omega
    | succ n ih =>
      intro _
      by_cases h0 : n = 0
      · subst h0; exact ⟨0, by omega, fun i hi => by rw [show i = 0 by omega]; exact Nat.le_refl _⟩
      · obtain ⟨m, hm, hmi⟩ := ih (by omega)
        by_cases h1 : c n < c m
        · refine ⟨n, by omega, fun i hi => ?_⟩
          by_cases e : i = n
          · subst e; exact Nat.le_refl _
          · have := hmi i (by omega); omega
        · refine ⟨m, by omega, fun i hi => ?_⟩
          by_cases e : i = n
          · subst e; omega
          · exact hmi i (by omega)
  obtain ⟨m, hm, hmi⟩ := least k k1
  -- the turned one
  have xr : ∀ i, i < k → (if m + i < k then m + i else m + i - k) < k := fun i hi => by split <;> omega
  have xadj : ∀ i, i < k → zJ N L a b (le (if m + i < k then m + i else m + i - k)) (c (if m + i < k then m + i else m + i - k)) (c (if m + (i + 1) < k then m + (i + 1) else m + (i + 1) - k)) := by
    intro i hi
    have := cj (if m + i < k then m + i else m + i - k) (xr i hi)
    by_cases h1 : m + i < k
    · rw [if_pos h1] at this ⊢
      by_cases h2 : m + (i + 1) < k
      · rw [if_pos h2]; exact this
      · rw [if_neg h2, show m + (i + 1) - k = 0 by omega, c0]
        rwa [show m + i + 1 = k by omega, ck] at this
    · rw [if_neg h1] at this ⊢
      rw [if_neg (by omega), show m + (i + 1) - k = m + i - k + 1 by omega]; exact this
  have xd : ∀ i j, i < j → j < k → c (if m + i < k then m + i else m + i - k) ≠ c (if m + j < k then m + j else m + j - k) := by
    intro i j hij hj
    have h1 := xr i (by omega)
    have h2 := xr j hj
    rcases Nat.lt_trichotomy (if m + i < k then m + i else m + i - k) (if m + j < k then m + j else m + j - k) with h | h | h
    · exact hs _ _ h h2
    · exfalso
      split at h <;> split at h <;> omega
    · exact Ne.symm (hs _ _ h h1)
  refine ⟨fun i => c (if m + i < k then m + i else m + i - k), k1, ?_, ?_, xd, fun i hi => ?_, ?_⟩
  · exact hcN _ (xr 0 (by omega))
  · intro i h1 h2
    have e0 : (if m + 0 < k then m + 0 else m + 0 - k) = m := by rw [if_pos (by omega)]; rfl
    have h3 := hmi _ (xr i h2)
    have h4 := xd 0 i h1 h2
    show c (if m + 0 < k then m + 0 else m + 0 - k) < c (if m + i < k then m + i else m + i - k) ∧ _
    rw [e0] at h4 ⊢
    exact ⟨by omega, hcN _ (xr i h2)⟩
  · exact (zjn_pos hab).mpr ⟨_, xadj i (by omega)⟩
  · have e1 := xadj (k - 1) (by omega)
    have ez : (if m + (k - 1 + 1) < k then m + (k - 1 + 1) else m + (k - 1 + 1) - k) = (if m + 0 < k then m + 0 else m + 0 - k) := by
      rw [if_neg (by omega), if_pos (by omega)]; omega
    rw [ez] at e1
    show (if k = 2 then 1 else 0) < zjn L a b (c (if m + (k - 1) < k then m + (k - 1) else m + (k - 1) - k)) (c (if m + 0 < k then m + 0 else m + 0 - k))
    have hp := (zjn_pos hab).mpr ⟨_, e1⟩
    by_cases h2 : k = 2
    · rw [if_pos h2]
      have e0 := xadj 0 (by omega)
      have hne : le (if m + 0 < k then m + 0 else m + 0 - k) ≠ le (if m + (k - 1) < k then m + (k - 1) else m + (k - 1) - k) := by
        have hcf := cf (by omega)
        have hm2 : m = 0 ∨ m = 1 := by omega
        subst h2
        rcases hm2 with rfl | rfl
        · exact hcf
        · exact Ne.symm hcf
      rw [show (0 : Nat) + 1 = k - 1 by omega] at e0
      have := zjn_two e0.1 e1.1 hne (Or.symm e0.2.2.2) (e1.2.2.2)
      omega
    · rw [if_neg h2]; omega
/-! going on from a prefix -/
def zPx (N L : Nat) (a b : Nat → Nat) (k : Nat) (x : Nat → Nat) : Prop := x 0 < N ∧ (∀ i, 0 < i → i ≤ k → x 0 < x i ∧ x i < N) ∧ (∀ i j, i < j → j ≤ k → x i ≠ x j) ∧ (∀ i, i + 1 ≤ k → zjn L a b (x i) (x (i + 1)) ≠ 0)
def zBr (bar : Nat → Bool) (k : Nat) (x : Nat → Nat) (N : Nat) : Prop := ∀ v, v < N → (bar v = true ↔ v < x 0 ∨ ∃ j, 1 ≤ j ∧ j ≤ k ∧ x j = v)
theorem zR1 {N L : Nat} {a b : Nat → Nat} (hab : ∀ l, l < L → a l < N ∧ b l < N) {g : Nat} (hmin : ∀ r' k', zTW N L a b r' k' → g ≤ k') {x : Nat → Nat} (hx : zUR N L a b g x) {k : Nat} (hk : 1 ≤ k) (hkg : k + 1 < g) {bar : Nat → Bool} (hb : zBr bar k x N) {cl : Nat → Nat → Int} {d vi lb : Nat → Int} (H : zBC N bar (zJ N L a b) cl (x 0) d vi lb) : d (x (k + 1)) = g - 1 - k := by
  obtain ⟨g1, x0, xi, xd, xa, xc⟩ := hx
  have hr0 := H.1.2.1
  have unb : ∀ i, k < i → i < g → bar (x i) = false := by
    intro i h1 h2
    by_cases e : bar (x i) = true
    · rcases (hb (x i) (xi i (by omega) h2).2).mp e with h | ⟨j, j1, j2, j3⟩
      · have := (xi i (by omega) h2).1; omega
      · exact absurd j3 (xd j i (by omega) h2)
    · simpa using e
  have up : ∀ i, i ≤ g - 1 - k → 0 ≤ d (if i = 0 then x 0 else x (g - i)) ∧ d (if i = 0 then x 0 else x (g - i)) ≤ i := by
    intro i
    induction i with
    | zero => intro _; rw [if_pos rfl, hr0]; omega
    | succ i ih =>
      intro hi
      have h1 := ih (by omega)
      rw [if_neg (by omega)]
      by_cases h0 : i = 0
      · subst h0
        rw [if_pos rfl] at h1
        have hp : zjn L a b (x (g - 1)) (x 0) ≠ 0 := by omega
        obtain ⟨l, hl⟩ := (zjn_pos hab).mp hp
        have := H.2.2.2 l _ _ (zJ_sym hl) h1.1 (unb (g - 1) (by omega) (by omega))
        rw [show g - (0 + 1) = g - 1 by omega]
        omega
      · rw [if_neg h0] at h1
        obtain ⟨l, hl⟩ := (zjn_pos hab).mp (xa (g - (i + 1)) (by omega))
        rw [show g - (i + 1) + 1 = g - i by omega] at hl
        have := H.2.2.2 l _ _ (zJ_sym hl) h1.1 (unb (g - (i + 1)) (by omega) (by omega))
        omega
  have hup := up (g - 1 - k) (Nat.le_refl _)
  rw [if_neg (by omega), show g - (g - 1 - k) = k + 1 by omega] at hup
  -- not nearer
  rcases (by omega : d (x (k + 1)) = ((g - 1 - k : Nat) : Int) ∨ d (x (k + 1)) < ((g - 1 - k : Nat) : Int)) with h | h
  · omega
  · exfalso
    obtain ⟨c, le, c0, ck, cj, cd, _, cb⟩ := zpath H (d (x (k + 1))).toNat (x (k + 1)) (xi (k + 1) (by omega) hkg).2 (by omega)
    generalize he : (d (x (k + 1))).toNat = e at *
    have he1 : 1 ≤ e := by
      rcases Nat.eq_zero_or_pos e with h0 | h0
      · subst h0
        have := xd 0 (k + 1) (by omega) hkg
        exact absurd (c0.symm.trans ck) this
      · exact h0
    obtain ⟨lx, hlx⟩ := zlinks hab (n := k + 1) (x := x) (fun i hi => xa i (by omega))
    have : zTW N L a b (x 0) (k + 1 + e) := by
      refine ⟨by omega, fun i => if i ≤ k + 1 then x i else c (k + 1 + e - i), fun i => if i < k + 1 then lx i else le (k + e - i), ?_, ?_, ?_, ?_, ?_⟩
      · show (if 0 ≤ k + 1 then x 0 else _) = x 0
        rw [if_pos (by omega)]
      · show (if k + 1 + e ≤ k + 1 then _ else c (k + 1 + e - (k + 1 + e))) = x 0
        rw [if_neg (by omega), Nat.sub_self, c0]
      · intro i hi
        show zJ N L a b (if i < k + 1 then lx i else le (k + e - i)) (if i ≤ k + 1 then x i else c (k + 1 + e - i)) (if i + 1 ≤ k + 1 then x (i + 1) else c (k + 1 + e - (i + 1)))
        by_cases h1 : i < k + 1
        · rw [if_pos h1, if_pos (by omega), if_pos (by omega)]; exact hlx i h1
        · rw [if_neg h1, if_neg (show ¬ i + 1 ≤ k + 1 by omega)]
          have := cj (k + e - i) (by omega)
          rw [show k + 1 + e - (i + 1) = k + e - i by omega]
          by_cases h2 : i = k + 1
          · subst h2
            rw [if_pos (Nat.le_refl _), ← ck]
            rw [show k + e - (k + 1) + 1 = e by omega] at this
            exact zJ_sym this
          · rw [if_neg (by omega), show k + 1 + e - i = k + e - i + 1 by omega]
            exact zJ_sym this
      · intro i h1 h2
        show (if i ≤ k + 1 then x i else c (k + 1 + e - i)) ≠ x 0
        split
        · exact Ne.symm (xd 0 i h1 (by omega))
        · intro e'
          have := cd (k + 1 + e - i) (by omega)
          rw [e', hr0] at this
          omega
      · intro _
        show (if 0 < k + 1 then lx 0 else _) ≠ (if k + 1 + e - 1 < k + 1 then lx (k + 1 + e - 1) else le (k + e - (k + 1 + e - 1)))
        rw [if_pos (by omega), if_neg (by omega), show k + e - (k + 1 + e - 1) = 0 by omega]
        intro e'
        have j1 := hlx 0 (by omega)
        have j2 := cj 0 (by omega)
        rw [c0, ← e'] at j2
        have e3 : x 1 = c 1 := zJ_other j1 j2
        have b1 : bar (x 1) = true := (hb (x 1) (xi 1 (by omega) (by omega)).2).mpr (Or.inr ⟨1, by omega, by omega, rfl⟩)
        rw [e3, cb 1 (by omega) he1] at b1
        cases b1
    have := hmin _ _ this
    omega
theorem zR2 {N L : Nat} {a b : Nat → Nat} (hab : ∀ l, l < L → a l < N ∧ b l < N) {g : Nat} {x : Nat → Nat} {k : Nat} (hk : 1 ≤ k) (hkg : k + 1 < g) (hx : zPx N L a b k x) {bar : Nat → Bool} (hb : zBr bar k x N) {cl : Nat → Nat → Int} {d vi lb : Nat → Int} (H : zBC N bar (zJ N L a b) cl (x 0) d vi lb) {v : Nat} (hv : zjn L a b (x k) v ≠ 0) (hd : d v = g - 1 - k) : ∃ y, zUR N L a b g y ∧ (∀ j, j ≤ k → y j = x j) ∧ y (k + 1) = v := by
  obtain ⟨x0, xi, xd, xa⟩ := hx
  have hr0 := H.1.2.1
  have hvN : v < N := by
    obtain ⟨l, hl⟩ := (zjn_pos hab).mp hv
    exact hl.2.2.1
  obtain ⟨c, le, c0, ck, cj, cd, _, cb⟩ := zpath H (g - 1 - k) v hvN (by omega)
  have cN : ∀ i, 1 ≤ i → i ≤ g - 1 - k → c i < N := by
    intro i h1 h2
    have := (cj (i - 1) (by omega)).2.2.1
    rwa [show i - 1 + 1 = i by omega] at this
  have cn : ∀ i, 1 ≤ i → i ≤ g - 1 - k → x 0 < c i ∧ ∀ j, j ≤ k → x j ≠ c i := by
    intro i h1 h2
    have hu := cb i h1 h2
    have hcd := cd i h2
    have h3 : ¬ (c i < x 0 ∨ ∃ j, 1 ≤ j ∧ j ≤ k ∧ x j = c i) := by
      intro h
      have := (hb (c i) (cN i h1 h2)).mpr h
      rw [hu] at this; cases this
    have h4 : c i ≠ x 0 := by
      intro e
      rw [e, hr0] at hcd
      omega
    refine ⟨?_, fun j hj e => ?_⟩
    · rcases Nat.lt_trichotomy (x 0) (c i) with h | h | h
      · exact h
      · exact absurd h.symm h4
      · exact absurd (Or.inl h) h3
    · by_cases h0 : j = 0
      · subst h0; exact h4 e.symm
      · exact h3 (Or.inr ⟨j, by omega, hj, e⟩)
  refine ⟨fun i => if i ≤ k then x i else c (g - i), ⟨by omega, ?_, ?_, ?_, ?_, ?_⟩, fun j hj => if_pos hj, ?_⟩
  · show (if 0 ≤ k then x 0 else _) < N
    rw [if_pos (by omega)]; exact x0
  · intro i h1 h2
    show (if 0 ≤ k then x 0 else _) < (if i ≤ k then x i else c (g - i)) ∧ (if i ≤ k then x i else c (g - i)) < N
    rw [if_pos (by omega)]
    by_cases h3 : i ≤ k
    · rw [if_pos h3]; exact xi i h1 h3
    · rw [if_neg h3]; exact ⟨(cn (g - i) (by omega) (by omega)).1, cN _ (by omega) (by omega)⟩
  · intro i j hij hj
    show (if i ≤ k then x i else c (g - i)) ≠ (if j ≤ k then x j else c (g - j))
    by_cases h1 : j ≤ k
    · rw [if_pos h1, if_pos (by omega)]; exact xd i j hij h1
    · rw [if_neg h1]
      by_cases h2 : i ≤ k
      · rw [if_pos h2]; exact (cn (g - j) (by omega) (by omega)).2 i h2
      · rw [if_neg h2]
        intro e
        have e1 := cd (g - i) (by omega)
        have e2 := cd (g - j) (by omega)
        rw [e] at e1
        omega
  · intro i hi
    show zjn L a b (if i ≤ k then x i else c (g - i)) (if i + 1 ≤ k then x (i + 1) else c (g - (i + 1))) ≠ 0
    by_cases h1 : i + 1 ≤ k
    · rw [if_pos h1, if_pos (by omega)]; exact xa i h1
    · rw [if_neg h1]
      by_cases h2 : i ≤ k
      · have : i = k := by omega
        subst this
        rw [if_pos h2, show g - (i + 1) = g - 1 - i by omega, ck]; exact hv
      · rw [if_neg h2]
        have := cj (g - (i + 1)) (by omega)
        rw [show g - (i + 1) + 1 = g - i by omega] at this
        exact (zjn_pos hab).mpr ⟨_, zJ_sym this⟩
  · show (if g = 2 then 1 else 0) < zjn L a b (if g - 1 ≤ k then x (g - 1) else c (g - (g - 1))) (if 0 ≤ k then x 0 else c (g - 0))
    rw [if_neg (by omega), if_neg (by omega), if_pos (by omega), show g - (g - 1) = 1 by omega]
    have := cj 0 (by omega)
    rw [c0] at this
    have := (zjn_pos hab).mpr ⟨_, zJ_sym this⟩
    exact Nat.pos_of_ne_zero this
  · show (if k + 1 ≤ k then x (k + 1) else c (g - (k + 1))) = v
    rw [if_neg (by omega), show g - (k + 1) = g - 1 - k by omega, ck]
