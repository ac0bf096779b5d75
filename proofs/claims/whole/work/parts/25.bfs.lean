/-! COUNTS, STORES -/
def st (g : Nat → Int) (j : Nat) (x : Int) : Nat → Int := fun k => if k = j then x else g k
def sn (g : Nat → Nat) (j x : Nat) : Nat → Nat := fun k => if k = j then x else g k
theorem st_at {g : Nat → Int} {j : Nat} {x : Int} : st g j x j = x := if_pos rfl
theorem st_ne {g : Nat → Int} {j k : Nat} {x : Int} (h : k ≠ j) : st g j x k = g k := if_neg h
theorem sn_at {g : Nat → Nat} {j : Nat} {x : Nat} : sn g j x j = x := if_pos rfl
theorem sn_ne {g : Nat → Nat} {j k : Nat} {x : Nat} (h : k ≠ j) : sn g j x k = g k := if_neg h
theorem zu_same {m : aj_M} {p : List Nat} {g : Nat → Int} {j : Nat} {x : Int} : aj_u (aj_ur m p g) p j x = aj_ur m p (st g j x) := zm_u_ur
theorem zu_push {m : aj_M} {p p' : List Nat} {g : Nat → Int} {j : Nat} {x : Int} : aj_u (aj_ur m p g) p' j x = if p' = p then aj_ur m p (st g j x) else aj_ur (aj_u m p' j x) p g := by
  by_cases h : p' = p
  · subst h; rw [if_pos rfl, zu_same]
  · rw [if_neg h]
    funext r k
    simp only [aj_u, aj_ur]
    by_cases h1 : r = p
    · subst h1; simp [Ne.symm h]
    · simp [h1]
theorem zr_ur {m : aj_M} {p q : List Nat} {g : Nat → Int} : aj_ur m p g q = if q = p then g else m q := by
  funext k
  simp only [aj_ur]
  split <;> rfl
theorem zr_u {m : aj_M} {p q : List Nat} {j : Nat} {x : Int} : aj_u m p j x q = if q = p then st (m p) j x else m q := by
  funext k
  by_cases h : q = p
  · subst h; simp [aj_u, st]
  · simp [aj_u, h]
theorem zu_base {m : aj_M} {p : List Nat} {j : Nat} {x : Int} : aj_u m p j x = aj_ur m p (st (m p) j x) := zm_u_as
theorem zq_ne {q : List Nat} {k : Nat} : (q = k :: q) = False := by simp
theorem zfor {σ : Type} {H : Nat → Int → σ → Prop} {N : Nat} (I : Nat → σ → Prop) (step : ∀ (k i : Nat) (s : σ), i ≤ N → I i s → (i < N → ∀ s', I (i + 1) s' → H k ((i : Int) + 1) s') → H (k + 1) (i : Int) s) : ∀ (k i : Nat) (s : σ), i ≤ N → N - i < k → I i s → H k (i : Int) s := by
  intro k
  induction k with
  | zero => intro i s h1 h2 _; omega
  | succ k ih =>
    intro i s h1 h2 h3
    exact step k i s h1 h3 (fun h s' h' => ih (i + 1) s' (by omega) (by omega) h')
def zcnt (P : Nat → Bool) : Nat → Nat
  | 0 => 0
  | n + 1 => zcnt P n + (if P n then 1 else 0)
theorem zcnt_le {P : Nat → Bool} : ∀ n, zcnt P n ≤ n
  | 0 => Nat.le_refl _
  | n + 1 => by have := zcnt_le (P := P) n; unfold zcnt; split <;> omega
theorem zcnt_ext {P Q : Nat → Bool} : ∀ n, (∀ v, v < n → P v = Q v) → zcnt P n = zcnt Q n
  | 0, _ => rfl
  | n + 1, h => by unfold zcnt; rw [zcnt_ext n (fun v hv => h v (by omega)), h n (by omega)]
theorem zcnt_lt {P : Nat → Bool} : ∀ (n v : Nat), v < n → P v = false → zcnt P n < n
  | 0, v, h, _ => by omega
  | n + 1, v, h, e => by
    unfold zcnt
    have h0 := zcnt_le (P := P) n
    by_cases hv : v = n
    · subst hv; simp [e]; omega
    · have := zcnt_lt (P := P) n v (by omega) e
      split <;> omega
theorem zcnt_up {P Q : Nat → Bool} : ∀ (n v : Nat), v < n → P v = false → Q v = true → (∀ w, w < n → w ≠ v → P w = Q w) → zcnt Q n = zcnt P n + 1
  | 0, v, h, _, _, _ => by omega
  | n + 1, v, h, e, e', hw => by
    unfold zcnt
    by_cases hv : v = n
    · subst hv
      rw [zcnt_ext (P := Q) (Q := P) v (fun w hw' => (hw w (by omega) (by omega)).symm), e, e']
      simp
    · rw [zcnt_up n v (by omega) e e' (fun w hw' => hw w (by omega)), hw n (by omega) (Ne.symm hv)]
      omega
theorem zcnt_full {P : Nat → Bool} : ∀ n, (∀ v, v < n → P v = true) → zcnt P n = n
  | 0, _ => rfl
  | n + 1, h => by unfold zcnt; rw [zcnt_full n (fun v hv => h v (by omega)), h n (by omega)]; rfl
/-! NETWORKS: N nodes, L links from a l to b l; spreading out from r, c: the label of a link from r -/
def zJ (N L : Nat) (a b : Nat → Nat) (l u v : Nat) : Prop := l < L ∧ u < N ∧ v < N ∧ ((a l = u ∧ b l = v) ∨ (a l = v ∧ b l = u))
theorem zJ_sym {N L : Nat} {a b : Nat → Nat} {l u v : Nat} (h : zJ N L a b l u v) : zJ N L a b l v u := ⟨h.1, h.2.2.1, h.2.1, h.2.2.2.symm⟩
def zBI (N : Nat) (bar : Nat → Bool) (jn : Nat → Nat → Nat → Prop) (c : Nat → Nat → Int) (r t h : Nat) (d vi lb : Nat → Int) (x : Nat → Nat) : Prop :=
  h ≤ t ∧ 1 ≤ t ∧ t = zcnt (fun v => decide (0 ≤ d v)) N ∧
  (∀ i, i < t → x i < N ∧ 0 ≤ d (x i) ∧ d (x i) ≤ i) ∧
  (∀ v, v < N → 0 ≤ d v → ∃ i, i < t ∧ x i = v) ∧
  (∀ i j, i ≤ j → j < t → d (x i) ≤ d (x j)) ∧
  (∀ j, h < t → j < t → d (x j) ≤ d (x h) + 1) ∧
  (r < N ∧ d r = 0 ∧ vi r = -1 ∧ x 0 = r ∧ lb r = c 1000 r) ∧
  (∀ v, v < N → d v = -1 ∨ 0 ≤ d v) ∧
  (∀ v, v < N → v ≠ r → 0 ≤ d v → bar v = false ∧ ∃ l u, jn l u v ∧ vi v = l ∧ 0 ≤ d u ∧ d v = d u + 1 ∧ lb v = if u = r then c l v else lb u) ∧
  (∀ R : Int, zcnt (fun i => decide (d (x i) ≤ R)) t = zcnt (fun v => decide (0 ≤ d v ∧ d v ≤ R)) N)
def zPR (bar : Nat → Bool) (jn : Nat → Nat → Nat → Prop) (h : Nat) (d : Nat → Int) (x : Nat → Nat) : Prop := ∀ i, i < h → ∀ l v, jn l (x i) v → bar v = false → 0 ≤ d v ∧ d v ≤ d (x i) + 1
theorem zBI_push {N L : Nat} {a b : Nat → Nat} {bar : Nat → Bool} {c : Nat → Nat → Int} {r t h : Nat} {d vi lb : Nat → Int} {x : Nat → Nat} (H : zBI N bar (zJ N L a b) c r t h d vi lb x) {l v : Nat} (ht : h < t) (hj : zJ N L a b l (x h) v) (hb : bar v = false) (hd : d v < 0) : t < N ∧ v ≠ r ∧ zBI N bar (zJ N L a b) c r (t + 1) h (st d v (d (x h) + 1)) (st vi v l) (st lb v (if x h = r then c l v else lb (x h))) (sn x t v) := by
  obtain ⟨h1, h2, h3, h4, h5, h6, h7, ⟨h8, h9, h10, h12, h11⟩, h13, h14, h15⟩ := H
  have hvN : v < N := hj.2.2.1
  have hvr : v ≠ r := by rintro rfl; omega
  have htN : t < N := by rw [h3]; exact zcnt_lt N v hvN (by simp; omega)
  have hu := h4 h ht
  have hne : ∀ i, i < t → x i ≠ v := fun i hi e => by have := (h4 i hi).2.1; rw [e] at this; omega
  have hx : ∀ i, i < t → sn x t v i = x i := fun i hi => sn_ne (by omega)
  have hdx : ∀ i, i < t → st d v (d (x h) + 1) (x i) = d (x i) := fun i hi => st_ne (hne i hi)
  refine ⟨htN, hvr, by omega, by omega, ?_, ?_, ?_, ?_, ?_, ⟨h8, ?_, ?_, ?_, ?_⟩, ?_, ?_, ?_⟩
  · rw [zcnt_up (P := fun v => decide (0 ≤ d v)) N v hvN (by simp; omega) (by simp [st_at]; omega) (fun w _ hw => by simp [st_ne hw])]
    omega
  · intro i hi
    by_cases e : i = t
    · subst e; rw [sn_at, st_at]; exact ⟨hvN, by omega, by omega⟩
    · rw [hx i (by omega), hdx i (by omega)]; exact h4 i (by omega)
  · intro w hw hdw
    by_cases e : w = v
    · subst e; exact ⟨t, by omega, sn_at⟩
    · rw [st_ne e] at hdw
      obtain ⟨i, hi, e2⟩ := h5 w hw hdw
      exact ⟨i, by omega, by rw [hx i hi, e2]⟩
  · intro i j hij hj'
    by_cases e : j = t
    · subst e
      rw [sn_at, st_at]
      by_cases e2 : i = j
      · subst e2; rw [sn_at, st_at]; exact Int.le_refl _
      · rw [hx i (by omega), hdx i (by omega)]; exact h7 i ht (by omega)
    · rw [hx i (by omega), hx j (by omega), hdx i (by omega), hdx j (by omega)]; exact h6 i j hij (by omega)
  · intro j _ hj'
    rw [hx h ht, hdx h ht]
    by_cases e : j = t
    · subst e; rw [sn_at, st_at]; exact Int.le_refl _
    · rw [hx j (by omega), hdx j (by omega)]; exact h7 j ht (by omega)
  · rw [st_ne (Ne.symm hvr)]; exact h9
  · rw [st_ne (Ne.symm hvr)]; exact h10
  · rw [hx 0 (by omega)]; exact h12
  · rw [st_ne (Ne.symm hvr)]; exact h11
  · intro w hw
    by_cases e : w = v
    · subst e; rw [st_at]; right; omega
    · rw [st_ne e]; exact h13 w hw
  · intro w hw hwr hdw
    by_cases e : w = v
    · subst e
      refine ⟨hb, l, x h, hj, st_at, ?_, ?_, ?_⟩
      · rw [hdx h ht]; exact hu.2.1
      · rw [st_at, hdx h ht]
      · rw [st_at, st_ne (hne h ht)]
    · rw [st_ne e] at hdw
      obtain ⟨b1, l', u', b2, b3, b4, b5, b6⟩ := h14 w hw hwr hdw
      have hu' : u' ≠ v := by rintro rfl; omega
      exact ⟨b1, l', u', b2, by rw [st_ne e]; exact b3, by rw [st_ne hu']; exact b4, by rw [st_ne e, st_ne hu']; exact b5, by rw [st_ne e, st_ne hu']; exact b6⟩
  · intro R
    have e1 : zcnt (fun i => decide (st d v (d (x h) + 1) (sn x t v i) ≤ R)) t = zcnt (fun i => decide (d (x i) ≤ R)) t := zcnt_ext t (fun i hi => by show decide (st d v (d (x h) + 1) (sn x t v i) ≤ R) = decide (d (x i) ≤ R); rw [hx i hi, hdx i hi])
    show zcnt _ t + _ = _
    rw [e1, h15 R]
    show _ + (if decide (st d v (d (x h) + 1) (sn x t v t) ≤ R) = true then 1 else 0) = _
    rw [sn_at, st_at]
    by_cases hR : d (x h) + 1 ≤ R
    · rw [if_pos (by simpa using hR)]
      exact (zcnt_up N v hvN (by simp; omega) (by simp [st_at]; omega) (fun w _ hw => by simp [st_ne hw])).symm
    · rw [if_neg (by simpa using hR), Nat.add_zero]
      refine zcnt_ext N (fun w _ => ?_)
      by_cases e : w = v
      · subst e
        show decide (0 ≤ d w ∧ d w ≤ R) = decide (0 ≤ st d w (d (x h) + 1) w ∧ st d w (d (x h) + 1) w ≤ R)
        rw [st_at, decide_eq_false (by omega), decide_eq_false (by omega)]
      · show decide (0 ≤ d w ∧ d w ≤ R) = decide (0 ≤ st d v (d (x h) + 1) w ∧ st d v (d (x h) + 1) w ≤ R)
        rw [st_ne e]
theorem zPR_push {N L : Nat} {a b : Nat → Nat} {bar : Nat → Bool} {c : Nat → Nat → Int} {r t h k : Nat} {d vi lb : Nat → Int} {x : Nat → Nat} (H : zBI N bar (zJ N L a b) c r t h d vi lb x) (P : zPR bar (zJ N L a b) k d x) {v : Nat} {z : Int} (hk : k ≤ t) (hd : d v < 0) : zPR bar (zJ N L a b) k (st d v z) (sn x t v) := by
  intro i hi l w hj hb
  rw [sn_ne (show i ≠ t by omega)] at hj ⊢
  have h1 := P i hi l w hj hb
  have h2 := (H.2.2.2.1 i (by omega)).2.1
  rw [st_ne (by rintro rfl; omega), st_ne (by intro e; rw [e] at h2; omega)]
  exact h1
theorem zBI_next {N : Nat} {bar : Nat → Bool} {jn : Nat → Nat → Nat → Prop} {c : Nat → Nat → Int} {r t h : Nat} {d vi lb : Nat → Int} {x : Nat → Nat} (H : zBI N bar jn c r t h d vi lb x) (ht : h < t) : zBI N bar jn c r t (h + 1) d vi lb x := by
  obtain ⟨h1, h2, h3, h4, h5, h6, h7, h8, h13, h14, h15⟩ := H
  refine ⟨by omega, h2, h3, h4, h5, h6, fun j hj hj' => ?_, h8, h13, h14, h15⟩
  have := h7 j ht hj'
  have := h6 h (h + 1) (by omega) hj
  omega
theorem zBI_first {N : Nat} {bar : Nat → Bool} {jn : Nat → Nat → Nat → Prop} {c : Nat → Nat → Int} {r : Nat} {d vi lb : Nat → Int} {x : Nat → Nat} (hr : r < N) (hd : ∀ v, v < N → d v = if v = r then 0 else -1) (hv : vi r = -1) (hx : x 0 = r) (hl : lb r = c 1000 r) : zBI N bar jn c r 1 0 d vi lb x := by
  have hd0 : d r = 0 := by rw [hd r hr, if_pos rfl]
  have e1 : ∀ P Q : Nat → Bool, (∀ v, v < N → P v = false) → zcnt P N = 0 := by
    intro P _ hP
    rw [zcnt_ext (Q := fun _ => false) N hP]
    have : ∀ n, zcnt (fun _ => false) n = 0 := by
      intro n
      induction n with
      | zero => rfl
      | succ n ih => unfold zcnt; rw [ih]; rfl
    exact this N
  refine ⟨by omega, by omega, ?_, ?_, ?_, ?_, ?_, ⟨hr, hd0, hv, hx, hl⟩, ?_, ?_, ?_⟩
  · rw [zcnt_up (P := fun _ => false) N r hr rfl (by simp [hd0]) (fun w hw hwr => by simp [hd w hw, hwr]), e1 _ (fun _ => false) (fun _ _ => rfl)]
  · intro i hi
    rw [show i = 0 by omega, hx, hd0]
    exact ⟨hr, by omega, by omega⟩
  · intro v hv' hdv
    rw [hd v hv'] at hdv
    by_cases e : v = r
    · exact ⟨0, by omega, by rw [hx, e]⟩
    · rw [if_neg e] at hdv; omega
  · intro i j h1 h2
    rw [show i = 0 by omega, show j = 0 by omega]; exact Int.le_refl _
  · intro j h1 h2
    rw [show j = 0 by omega]; omega
  · intro v hv'
    rw [hd v hv']
    split
    · right; omega
    · left; rfl
  · intro v hv' hvr hdv
    rw [hd v hv', if_neg hvr] at hdv; omega
  · intro R
    show 0 + (if decide (d (x 0) ≤ R) = true then 1 else 0) = _
    rw [hx, hd0]
    by_cases hR : 0 ≤ R
    · rw [if_pos (by simpa using hR), zcnt_up (P := fun _ => false) N r hr rfl (by simp [hd0]; omega) (fun w hw hwr => by simp [hd w hw, hwr]), e1 _ (fun _ => false) (fun _ _ => rfl)]
    · rw [if_neg (by simpa using hR), e1 _ (fun _ => false) (fun v hv' => by rw [hd v hv']; split <;> simp <;> omega)]
/-- what has been found at the end: distances, a tree, labels by branches -/
def zBC (N : Nat) (bar : Nat → Bool) (jn : Nat → Nat → Nat → Prop) (c : Nat → Nat → Int) (r : Nat) (d vi lb : Nat → Int) : Prop :=
  (r < N ∧ d r = 0 ∧ vi r = -1 ∧ lb r = c 1000 r) ∧ (∀ v, v < N → d v = -1 ∨ 0 ≤ d v) ∧
  (∀ v, v < N → v ≠ r → 0 ≤ d v → bar v = false ∧ ∃ l u, jn l u v ∧ vi v = l ∧ 0 ≤ d u ∧ d v = d u + 1 ∧ lb v = if u = r then c l v else lb u) ∧
  (∀ l u v, jn l u v → 0 ≤ d u → bar v = false → 0 ≤ d v ∧ d v ≤ d u + 1)
theorem zBI_end {N L : Nat} {a b : Nat → Nat} {bar : Nat → Bool} {c : Nat → Nat → Int} {r t : Nat} {d vi lb : Nat → Int} {x : Nat → Nat} (H : zBI N bar (zJ N L a b) c r t t d vi lb x) (P : zPR bar (zJ N L a b) t d x) : zBC N bar (zJ N L a b) c r d vi lb := by
  obtain ⟨h1, h2, h3, h4, h5, h6, h7, h8, h13, h14, h15⟩ := H
  refine ⟨⟨h8.1, h8.2.1, h8.2.2.1, h8.2.2.2.2⟩, h13, h14, fun l u v hj hu hb => ?_⟩
  obtain ⟨i, hi, rfl⟩ := h5 u hj.2.1 hu
  exact P i hi l v hj hb
/-- two such are alike -/
theorem zBC_le {N L : Nat} {a b : Nat → Nat} {bar : Nat → Bool} {c c' : Nat → Nat → Int} {r : Nat} {d vi lb d' vi' lb' : Nat → Int} (H : zBC N bar (zJ N L a b) c r d vi lb) (H' : zBC N bar (zJ N L a b) c' r d' vi' lb') : ∀ (k v : Nat), v < N → d v = k → 0 ≤ d' v ∧ d' v ≤ d v := by
  intro k
  induction k with
  | zero =>
    intro v hv e
    by_cases hr : v = r
    · rw [hr, H'.1.2.1, H.1.2.1]; omega
    · obtain ⟨_, l, u, _, _, h4, h5, _⟩ := H.2.2.1 v hv hr (by omega)
      omega
  | succ k ih =>
    intro v hv e
    by_cases hr : v = r
    · rw [hr, H'.1.2.1, H.1.2.1]; omega
    · obtain ⟨hb, l, u, hj, _, h4, h5, _⟩ := H.2.2.1 v hv hr (by omega)
      have h6 := ih u hj.2.1 (by omega)
      have h7 := H'.2.2.2 l u v hj h6.1 hb
      omega
theorem zBC_eq {N L : Nat} {a b : Nat → Nat} {bar : Nat → Bool} {c c' : Nat → Nat → Int} {r : Nat} {d vi lb d' vi' lb' : Nat → Int} (H : zBC N bar (zJ N L a b) c r d vi lb) (H' : zBC N bar (zJ N L a b) c' r d' vi' lb') {v : Nat} (hv : v < N) : d' v = d v := by
  rcases H.2.1 v hv with h | h
  · rcases H'.2.1 v hv with h' | h'
    · rw [h, h']
    · have := zBC_le H' H (d' v).toNat v hv (by omega)
      omega
  · have h1 := zBC_le H H' (d v).toNat v hv (by omega)
    have h2 := zBC_le H' H (d' v).toNat v hv (by omega)
    omega
theorem zBI_lt {N : Nat} {bar : Nat → Bool} {jn : Nat → Nat → Nat → Prop} {c : Nat → Nat → Int} {r t h : Nat} {d vi lb : Nat → Int} {x : Nat → Nat} (H : zBI N bar jn c r t h d vi lb x) : t ≤ N ∧ ∀ v, v < N → -1 ≤ d v ∧ d v < N := by
  obtain ⟨h1, h2, h3, h4, h5, h6, h7, h8, h13, h14, h15⟩ := H
  have ht : t ≤ N := by rw [h3]; exact zcnt_le N
  refine ⟨ht, fun v hv => ?_⟩
  rcases h13 v hv with h | h
  · omega
  · obtain ⟨i, hi, rfl⟩ := h5 v hv h
    have := h4 i hi
    omega
theorem zcnt_mono {P : Nat → Bool} : ∀ {n k : Nat}, n ≤ k → zcnt P n ≤ zcnt P k := by
  intro n k h
  induction k with
  | zero => rw [show n = 0 by omega]; exact Nat.le_refl _
  | succ k ih =>
    by_cases e : n = k + 1
    · subst e; exact Nat.le_refl _
    · have := ih (by omega)
      show _ ≤ zcnt P k + _
      omega
/-- as many values as places: no value stands twice -/
theorem zinj {t : Nat} : ∀ (N : Nat) (P : Nat → Bool) (x : Nat → Nat), (∀ i, i < t → x i < N ∧ P (x i) = true) → (∀ v, v < N → P v = true → ∃ i, i < t ∧ x i = v) → zcnt P N = t → ∀ i j, i < j → j < t → x i ≠ x j := by
  induction t with
  | zero => intro N P x _ _ _ i j _ h; omega
  | succ t ih =>
    intro N P x h1 h2 h3 i j hij hj e
    -- the place that can be spared
    have key : ∀ (y : Nat → Nat), (∀ i, i < t → y i < N ∧ P (y i) = true) → (∀ v, v < N → P v = true → ∃ i, i < t ∧ y i = v) → False := by
      intro y y1 y2
      have : ∀ (t N : Nat) (P : Nat → Bool) (y : Nat → Nat), (∀ v, v < N → P v = true → ∃ i, i < t ∧ y i = v) → zcnt P N ≤ t := by
        intro t
        induction t with
        | zero =>
          intro N P y hy
          rw [zcnt_ext (Q := fun _ => false) N (fun v hv => by
            by_cases hP : P v = true
            · obtain ⟨i, hi, _⟩ := hy v hv hP; omega
            · simpa using hP)]
          have : ∀ n, zcnt (fun _ => false) n = 0 := by
            intro n
            induction n with
            | zero => rfl
            | succ n ih => unfold zcnt; rw [ih]; rfl
          rw [this]; exact Nat.le_refl _
        | succ t ih2 =>
          intro N P y hy
          by_cases hyt : y t < N ∧ P (y t) = true
          · have h5 := ih2 N (fun v => P v && decide (v ≠ y t)) y (fun v hv hP => by
              simp at hP
              obtain ⟨i, hi, e⟩ := hy v hv hP.1
              refine ⟨i, ?_, e⟩
              by_cases ei : i = t
              · subst ei; exact absurd e.symm hP.2
              · omega)
            have h6 := zcnt_up (P := fun v => P v && decide (v ≠ y t)) (Q := P) N (y t) hyt.1 (by simp) hyt.2 (fun w _ hw => by simp [hw])
            omega
          · have h5 := ih2 N P y (fun v hv hP => by
              obtain ⟨i, hi, e⟩ := hy v hv hP
              refine ⟨i, ?_, e⟩
              by_cases ei : i = t
              · subst ei; rw [e] at hyt; exact absurd ⟨hv, hP⟩ hyt
              · omega)
            omega
      have := this t N P y y2
      omega
    refine key (fun k => if k = j then x t else x k) (fun k hk => ?_) (fun v hv hP => ?_)
    · show (if k = j then x t else x k) < N ∧ P (if k = j then x t else x k) = true
      split
      · exact h1 t (by omega)
      · exact h1 k (by omega)
    · obtain ⟨k, hk, ek⟩ := h2 v hv hP
      by_cases e1 : k = j
      · refine ⟨i, by omega, ?_⟩
        show (if i = j then x t else x i) = v
        rw [if_neg (by omega), e, ← e1, ek]
      · by_cases e2 : k = t
        · refine ⟨j, by omega, ?_⟩
          show (if j = j then x t else x j) = v
          rw [if_pos rfl, ← e2, ek]
        · refine ⟨k, by omega, ?_⟩
          show (if k = j then x t else x k) = v
          rw [if_neg e1, ek]
theorem zBI_inj {N : Nat} {bar : Nat → Bool} {jn : Nat → Nat → Nat → Prop} {c : Nat → Nat → Int} {r t h : Nat} {d vi lb : Nat → Int} {x : Nat → Nat} (H : zBI N bar jn c r t h d vi lb x) {i j : Nat} (hi : i < t) (hj : j < t) (e : x i = x j) : i = j := by
  obtain ⟨h1, h2, h3, h4, h5, h6, h7, h8, h13, h14, h15⟩ := H
  have key := zinj (t := t) N (fun v => decide (0 ≤ d v)) x (fun i hi => ⟨(h4 i hi).1, by simpa using (h4 i hi).2.1⟩) (fun v hv hP => h5 v hv (by simpa using hP)) h3.symm
  by_cases c : i = j
  · exact c
  · rcases Nat.lt_or_ge i j with h | h
    · exact absurd e (key i j h hj)
    · exact absurd e.symm (key j i (by omega) hi)
