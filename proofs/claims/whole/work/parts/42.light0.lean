/-! THE LIGHTEST WAYS: what a table of costs must be -/
def zDT (N : Nat) (jn : Nat → Nat → Nat → Prop) (w : Nat → Int) (inf : Int) (r : Nat) (S : Nat → Bool) (C vi lb : Nat → Int) : Prop := ∀ v, v < N → v ≠ r → C v < inf → ∃ l u, jn l u v ∧ vi v = (l : Nat) ∧ S u = true ∧ C v = C u + w l ∧ lb v = if u = r then (l : Int) else lb u
/-- k nodes S are settled -/
def zDI (N : Nat) (jn : Nat → Nat → Nat → Prop) (w : Nat → Int) (inf : Int) (r k : Nat) (S : Nat → Bool) (C vi lb : Nat → Int) : Prop :=
  (r < N ∧ C r = 0 ∧ vi r = -1) ∧ (∀ v, v < N → 0 ≤ C v ∧ (C v = inf ∨ C v ≤ 99 * k)) ∧ zcnt S N = k ∧
  (∀ u v, u < N → v < N → S u = true → S v = false → C u ≤ C v) ∧ zDT N jn w inf r S C vi lb ∧
  (∀ l u v, jn l u v → S u = true → C v ≤ C u + w l) ∧ (∀ u, u < N → S u = true → C u < inf)
/-- u is being settled; the links of D have been looked at -/
def zDJ (N : Nat) (jn : Nat → Nat → Nat → Prop) (w : Nat → Int) (inf : Int) (r k : Nat) (S : Nat → Bool) (u : Nat) (D : Nat → Prop) (C vi lb : Nat → Int) : Prop :=
  (r < N ∧ C r = 0 ∧ vi r = -1) ∧ (∀ v, v < N → 0 ≤ C v ∧ (C v = inf ∨ C v ≤ 99 * (k + 1))) ∧ (zcnt S N = k ∧ u < N ∧ S u = false ∧ C u < inf ∧ C u ≤ 99 * k) ∧
  (∀ v, v < N → S v = true → C v ≤ C u) ∧ (∀ v, v < N → S v = false → C u ≤ C v) ∧ zDT N jn w inf r (fun v => S v || decide (v = u)) C vi lb ∧
  (∀ l s v, jn l s v → S s = true → C v ≤ C s + w l) ∧ (∀ l v, D l → jn l u v → C v ≤ C u + w l) ∧ (∀ u, u < N → S u = true → C u < inf)
def zjw (N L : Nat) (jn : Nat → Nat → Nat → Prop) (w : Nat → Int) (inf : Int) : Prop := (∀ l u v, jn l u v → l < L ∧ u < N ∧ v < N ∧ jn l v u) ∧ (∀ l u v v', jn l u v → jn l u v' → v = v') ∧ (∀ l, l < L → 1 ≤ w l ∧ w l ≤ 99) ∧ 6100 < inf ∧ N ≤ 60
theorem zDJ_pick {N L : Nat} {jn : Nat → Nat → Nat → Prop} {w : Nat → Int} {inf : Int} (W : zjw N L jn w inf) {r k : Nat} {S : Nat → Bool} {C vi lb : Nat → Int} (H : zDI N jn w inf r k S C vi lb) {u : Nat} (hu : u < N) (hS : S u = false) (hC : C u < inf) (hm : ∀ v, v < N → S v = false → C u ≤ C v) : zDJ N jn w inf r k S u (fun _ => False) C vi lb := by
  obtain ⟨h1, h2, h3, h4, h5, h6, h7⟩ := H
  refine ⟨h1, fun v hv => ?_, ⟨h3, hu, hS, hC, ?_⟩, fun v hv hs => h4 v u hv hu hs hS, hm, ?_, h6, fun l v hl => False.elim hl, h7⟩
  · have := h2 v hv
    refine ⟨this.1, this.2.imp id (fun h => by omega)⟩
  · rcases (h2 u hu).2 with h | h
    · omega
    · exact h
  · intro v hv hvr hCv
    obtain ⟨l, p, a1, a2, a3, a4, a5⟩ := h5 v hv hvr hCv
    exact ⟨l, p, a1, a2, by simp [a3], a4, a5⟩
theorem zDJ_skip {N : Nat} {jn : Nat → Nat → Nat → Prop} {w : Nat → Int} {inf : Int} {r k : Nat} {S : Nat → Bool} {u : Nat} {D D' : Nat → Prop} {C vi lb : Nat → Int} (H : zDJ N jn w inf r k S u D C vi lb) (hD : ∀ l v, D' l → jn l u v → D l ∨ C v ≤ C u + w l) : zDJ N jn w inf r k S u D' C vi lb := by
  obtain ⟨h1, h2, h3, h4, h5, h6, h7, h8, h9⟩ := H
  refine ⟨h1, h2, h3, h4, h5, h6, h7, fun l v hl hj => ?_, h9⟩
  rcases hD l v hl hj with h | h
  · exact h8 l v h hj
  · exact h
theorem zDJ_upd {N L : Nat} {jn : Nat → Nat → Nat → Prop} {w : Nat → Int} {inf : Int} (W : zjw N L jn w inf) {r k : Nat} {S : Nat → Bool} {u : Nat} {D D' : Nat → Prop} {C vi lb : Nat → Int} (H : zDJ N jn w inf r k S u D C vi lb) {l v : Nat} (hj : jn l u v) (hlt : C u + w l < C v) (hD : ∀ l' v', D' l' → jn l' u v' → D l' ∨ v' = v ∧ l' = l) : v ≠ u ∧ zDJ N jn w inf r k S u D' (st C v (C u + w l)) (st vi v l) (st lb v (if u = r then (l : Int) else lb u)) := by
  obtain ⟨h1, h2, ⟨h3a, h3b, h3c, h3d, h3e⟩, h4, h5, h6, h7, h8, h9⟩ := H
  have hw := W.2.2.1 l (W.1 l u v hj).1
  have hvN := (W.1 l u v hj).2.2.1
  have hvu : v ≠ u := by rintro rfl; omega
  have hC0 := (h2 u h3b).1
  have hvr : v ≠ r := by rintro rfl; omega
  have hSv : S v = false := by
    by_cases hs : S v = true
    · have := h4 v hvN hs; omega
    · simpa using hs
  have eu : st C v (C u + w l) u = C u := st_ne (Ne.symm hvu)
  have hle : ∀ x, st C v (C u + w l) x ≤ C x := by
    intro x
    by_cases e : x = v
    · subst e; rw [st_at]; omega
    · rw [st_ne e]; exact Int.le_refl _
  have hsS : ∀ s, S s = true → st C v (C u + w l) s = C s := fun s hs => st_ne (by rintro rfl; rw [hs] at hSv; cases hSv)
  refine ⟨hvu, ⟨h1.1, by rw [st_ne (Ne.symm hvr)]; exact h1.2.1, by rw [st_ne (Ne.symm hvr)]; exact h1.2.2⟩, fun x hx => ?_, ⟨h3a, h3b, h3c, by rw [eu]; exact h3d, by rw [eu]; exact h3e⟩, fun x hx hs => by rw [eu, hsS x hs]; exact h4 x hx hs, fun x hx hs => ?_, ?_, fun l' s x hj' hs => ?_, fun l' x hl' hj' => ?_, fun x hx hs => by rw [hsS x hs]; exact h9 x hx hs⟩
  · by_cases e : x = v
    · subst e; rw [st_at]; exact ⟨by omega, Or.inr (by omega)⟩
    · rw [st_ne e]; exact h2 x hx
  · rw [eu]
    by_cases e : x = v
    · subst e; rw [st_at]; omega
    · rw [st_ne e]; exact h5 x hx hs
  · intro x hx hxr hCx
    by_cases e : x = v
    · subst e
      exact ⟨l, u, hj, st_at, by simp, by rw [st_at, eu], by rw [st_at, st_ne (Ne.symm hvu)]⟩
    · rw [st_ne e] at hCx
      obtain ⟨l', p, a1, a2, a3, a4, a5⟩ := h6 x hx hxr hCx
      have hp : p ≠ v := by
        rintro rfl
        simp only [Bool.or_eq_true, decide_eq_true_eq] at a3
        rcases a3 with h | h
        · rw [h] at hSv; cases hSv
        · exact hvu h
      exact ⟨l', p, a1, by rw [st_ne e]; exact a2, a3, by rw [st_ne e, st_ne hp]; exact a4, by rw [st_ne e, st_ne hp]; exact a5⟩
  · rw [hsS s hs]
    have := h7 l' s x hj' hs
    have := hle x
    omega
  · rw [eu]
    rcases hD l' x hl' hj' with h | ⟨rfl, rfl⟩
    · have := h8 l' x h hj'
      have := hle x
      omega
    · rw [st_at]; exact Int.le_refl _
theorem zDJ_end {N L : Nat} {jn : Nat → Nat → Nat → Prop} {w : Nat → Int} {inf : Int} (W : zjw N L jn w inf) {r k : Nat} {S : Nat → Bool} {u : Nat} {D : Nat → Prop} {C vi lb : Nat → Int} (H : zDJ N jn w inf r k S u D C vi lb) (hD : ∀ l v, jn l u v → D l) : zDI N jn w inf r (k + 1) (fun v => S v || decide (v = u)) C vi lb := by
  obtain ⟨h1, h2, ⟨h3a, h3b, h3c, h3d, h3e⟩, h4, h5, h6, h7, h8, h9⟩ := H
  refine ⟨h1, fun v hv => by have := h2 v hv; exact ⟨this.1, this.2.imp id (fun h => by omega)⟩, ?_, fun x v hx hv hsx hsv => ?_, h6, fun l x v hj hs => ?_, fun x hx hs => ?_⟩
  · rw [zcnt_up (P := S) N u h3b h3c (by simp) (fun x _ hx => by simp [hx]), h3a]
  · simp only [Bool.or_eq_true, decide_eq_true_eq, Bool.or_eq_false_iff, decide_eq_false_iff_not] at hsx hsv
    have e1 := h5 v hv hsv.1
    rcases hsx with h | rfl
    · have := h4 x hx h; omega
    · exact e1
  · simp only [Bool.or_eq_true, decide_eq_true_eq] at hs
    rcases hs with h | rfl
    · exact h7 l x v hj h
    · exact h8 l v (hD l v hj) hj
  · simp only [Bool.or_eq_true, decide_eq_true_eq] at hs
    rcases hs with h | rfl
    · exact h9 x hx h
    · exact h3d
/-- the table at the end -/
def zDC (N : Nat) (jn : Nat → Nat → Nat → Prop) (w : Nat → Int) (inf : Int) (r : Nat) (C vi lb : Nat → Int) : Prop :=
  (r < N ∧ C r = 0 ∧ vi r = -1) ∧ (∀ v, v < N → 0 ≤ C v ∧ (C v = inf ∨ C v ≤ 5940)) ∧
  (∀ v, v < N → v ≠ r → C v < inf → ∃ l u, jn l u v ∧ vi v = (l : Nat) ∧ C u < inf ∧ C v = C u + w l ∧ lb v = if u = r then (l : Int) else lb u) ∧
  (∀ l u v, jn l u v → C u < inf → C v ≤ C u + w l)
theorem zDI_end {N L : Nat} {jn : Nat → Nat → Nat → Prop} {w : Nat → Int} {inf : Int} (W : zjw N L jn w inf) {r k : Nat} {S : Nat → Bool} {C vi lb : Nat → Int} (H : zDI N jn w inf r k S C vi lb) (hall : ∀ v, v < N → C v < inf → S v = true) : zDC N jn w inf r C vi lb := by
  obtain ⟨h1, h2, h3, h4, h5, h6, h7⟩ := H
  have hk : k ≤ 60 := by have := zcnt_le (P := S) N; have := W.2.2.2.2; omega
  refine ⟨h1, fun v hv => by have := h2 v hv; exact ⟨this.1, this.2.imp id (fun h => by omega)⟩, fun v hv hvr hC => ?_, fun l u v hj hC => h6 l u v hj (hall u (W.1 l u v hj).2.1 hC)⟩
  obtain ⟨l, u, a1, a2, a3, a4, a5⟩ := h5 v hv hvr hC
  exact ⟨l, u, a1, a2, h7 u (W.1 l u v a1).2.1 a3, a4, a5⟩
theorem zDI_first {N L : Nat} {jn : Nat → Nat → Nat → Prop} {w : Nat → Int} {inf : Int} (W : zjw N L jn w inf) {r : Nat} {C vi lb : Nat → Int} (hr : r < N) (hC : ∀ v, v < N → C v = if v = r then 0 else inf) (hv : vi r = -1) : zDI N jn w inf r 0 (fun _ => false) C vi lb := by
  have hinf := W.2.2.2.1
  refine ⟨⟨hr, by rw [hC r hr, if_pos rfl], hv⟩, fun v hv => ?_, ?_, fun u v _ _ h => (by cases h), fun v hv hvr hCv => ?_, fun l u v _ h => (by cases h), fun u _ h => (by cases h)⟩
  · rw [hC v hv]
    split
    · exact ⟨by omega, Or.inr (by omega)⟩
    · exact ⟨by omega, Or.inl rfl⟩
  · have : ∀ n, zcnt (fun _ => false) n = 0 := by
      intro n
      induction n with
      | zero => rfl
      | succ n ih => unfold zcnt; rw [ih]; rfl
    exact this N
  · rw [hC v hv, if_neg hvr] at hCv; omega
/-- two such tables are alike, also where one has more links -/
theorem zDC_le {N L : Nat} {jn jn' : Nat → Nat → Nat → Prop} {w : Nat → Int} {inf inf' : Int} (W : zjw N L jn w inf) (W' : zjw N L jn' w inf') (hj : ∀ l u v, jn l u v → jn' l u v) {r : Nat} {C vi lb C' vi' lb' : Nat → Int} (H : zDC N jn w inf r C vi lb) (H' : zDC N jn' w inf' r C' vi' lb') : ∀ (k v : Nat), v < N → C v < inf → C v ≤ k → C' v < inf' ∧ C' v ≤ C v := by
  have hinf' := W'.2.2.2.1
  intro k
  induction k with
  | zero =>
    intro v hv hC hk
    by_cases e : v = r
    · subst e; rw [H'.1.2.1, H.1.2.1]; omega
    · obtain ⟨l, u, a1, _, a3, a4, _⟩ := H.2.2.1 v hv e hC
      have := W.2.2.1 l (W.1 l u v a1).1
      have := (H.2.1 u (W.1 l u v a1).2.1).1
      omega
  | succ k ih =>
    intro v hv hC hk
    by_cases e : v = r
    · subst e; rw [H'.1.2.1, H.1.2.1]; omega
    · obtain ⟨l, u, a1, _, a3, a4, _⟩ := H.2.2.1 v hv e hC
      have hw := W.2.2.1 l (W.1 l u v a1).1
      have hu := (W.1 l u v a1).2.1
      have h1 := ih u hu a3 (by omega)
      have h2 := H'.2.2.2 l u v (hj l u v a1) h1.1
      rcases (H.2.1 v hv).2 with h | h
      · omega
      · omega
theorem zDC_le' {N L : Nat} {jn jn' : Nat → Nat → Nat → Prop} {w : Nat → Int} {inf inf' : Int} (W : zjw N L jn w inf) (W' : zjw N L jn' w inf') (hj : ∀ l u v, jn l u v → jn' l u v) {r : Nat} {C vi lb C' vi' lb' : Nat → Int} (H : zDC N jn w inf r C vi lb) (H' : zDC N jn' w inf' r C' vi' lb') {v : Nat} (hv : v < N) (hC : C v < inf) : C' v < inf' ∧ C' v ≤ C v := zDC_le W W' hj H H' (C v).toNat v hv hC (by have := (H.2.1 v hv).1; omega)
/-- a table there is always -/
theorem zDC_ex {N L : Nat} {jn : Nat → Nat → Nat → Prop} {w : Nat → Int} {inf : Int} (W : zjw N L jn w inf) {r : Nat} (hr : r < N) : ∃ C vi lb : Nat → Int, zDC N jn w inf r C vi lb := by
  have step : ∀ (k : Nat) (S : Nat → Bool) (u : Nat) (C vi lb : Nat → Int), zDJ N jn w inf r k S u (fun _ => False) C vi lb → ∀ n, ∃ C vi lb : Nat → Int, zDJ N jn w inf r k S u (fun l => l < n) C vi lb := by
    intro k S u C vi lb H n
    induction n with
    | zero => exact ⟨C, vi, lb, zDJ_skip H (fun l v h => by omega)⟩
    | succ n ih =>
      obtain ⟨C1, vi1, lb1, H1⟩ := ih
      by_cases hex : ∃ v, jn n u v ∧ C1 u + w n < C1 v
      · obtain ⟨v, hj, hlt⟩ := hex
        refine ⟨_, _, _, (zDJ_upd W H1 (D' := fun l => l < n + 1) hj hlt (fun l' v' hl' hj' => ?_)).2⟩
        by_cases e : l' = n
        · subst e; exact Or.inr ⟨W.2.1 _ _ _ _ hj' hj, rfl⟩
        · exact Or.inl (by omega)
      · refine ⟨C1, vi1, lb1, zDJ_skip H1 (fun l v hl hj => ?_)⟩
        by_cases e : l = n
        · subst e
          right
          rcases (by omega : C1 u + w l < C1 v ∨ C1 v ≤ C1 u + w l) with h | h
          · exact absurd ⟨v, hj, h⟩ hex
          · exact h
        · exact Or.inl (by omega)
  have least : ∀ (P : Nat → Prop) (C : Nat → Int) (n : Nat), (∃ v, v < n ∧ P v) → ∃ u, u < n ∧ P u ∧ ∀ v, v < n → P v → C u ≤ C v := by
    intro P C n
    induction n with
    | zero => rintro ⟨v, hv, _⟩; omega
    | succ n ih =>
      rintro ⟨v, hv, hP⟩
      by_cases hex : ∃ v, v < n ∧ P v
      · obtain ⟨u, h1, h2, h3⟩ := ih hex
        by_cases hn : P n ∧ C n < C u
        · refine ⟨n, by omega, hn.1, fun x hx hPx => ?_⟩
          by_cases e : x = n
          · subst e; exact Int.le_refl _
          · have := h3 x (by omega) hPx; omega
        · refine ⟨u, by omega, h2, fun x hx hPx => ?_⟩
          by_cases e : x = n
          · subst e
            rcases (by omega : C x < C u ∨ C u ≤ C x) with h | h
            · exact absurd ⟨hPx, h⟩ hn
            · exact h
          · exact h3 x (by omega) hPx
      · refine ⟨n, by omega, ?_, fun x hx hPx => ?_⟩
        · by_cases e : v = n
          · subst e; exact hP
          · exact absurd ⟨v, by omega, hP⟩ hex
        · by_cases e : x = n
          · subst e; exact Int.le_refl _
          · exact absurd ⟨x, by omega, hPx⟩ hex
  have key : ∀ (n k : Nat) (S : Nat → Bool) (C vi lb : Nat → Int), N - k ≤ n → zDI N jn w inf r k S C vi lb → ∃ C vi lb : Nat → Int, zDC N jn w inf r C vi lb := by
    intro n
    induction n with
    | zero =>
      intro k S C vi lb hk H
      have h3 := H.2.2.1
      have := zcnt_le (P := S) N
      exact ⟨C, vi, lb, zDI_end W H (fun v hv _ => zcnt_all N (by omega) v hv)⟩
    | succ n ih =>
      intro k S C vi lb hk H
      by_cases hex : ∃ v, v < N ∧ (S v = false ∧ C v < inf)
      · obtain ⟨u, u1, ⟨u2, u3⟩, u4⟩ := least (fun v => S v = false ∧ C v < inf) C N hex
        have J := zDJ_pick W H u1 u2 u3 (fun v hv hs => by
          rcases (by omega : C v < inf ∨ inf ≤ C v) with h | h
          · exact u4 v hv ⟨hs, h⟩
          · omega)
        obtain ⟨C1, vi1, lb1, J1⟩ := step k S u C vi lb J L
        exact ih (k + 1) _ C1 vi1 lb1 (by omega) (zDJ_end W J1 (fun l v hj => (W.1 l u v hj).1))
      · refine ⟨C, vi, lb, zDI_end W H (fun v hv hC => ?_)⟩
        by_cases hs : S v = true
        · exact hs
        · exact absurd ⟨v, hv, by simpa using hs, hC⟩ hex
  exact key N 0 _ (fun v => if v = r then 0 else inf) (fun _ => -1) (fun _ => -1) (by omega) (zDI_first W hr (fun v _ => rfl) rfl)
theorem zdpath {N L : Nat} {jn : Nat → Nat → Nat → Prop} {w : Nat → Int} {inf : Int} (W : zjw N L jn w inf) {r : Nat} {C vi lb : Nat → Int} (H : zDC N jn w inf r C vi lb) : ∀ (n v : Nat), v < N → C v < inf → C v ≤ n → ∃ (k : Nat) (c le : Nat → Nat), c 0 = r ∧ c k = v ∧ (∀ i, i < k → jn (le i) (c i) (c (i + 1)) ∧ vi (c (i + 1)) = le i ∧ C (c (i + 1)) = C (c i) + w (le i)) ∧ (∀ i, i ≤ k → C (c i) < inf) := by
  intro n
  induction n with
  | zero =>
    intro v hv hC hn
    by_cases e : v = r
    · subst e; exact ⟨0, fun _ => v, fun _ => 0, rfl, rfl, fun i hi => by omega, fun i hi => hC⟩
    · obtain ⟨l, u, a1, _, a3, a4, _⟩ := H.2.2.1 v hv e hC
      have := W.2.2.1 l (W.1 l u v a1).1
      have := (H.2.1 u (W.1 l u v a1).2.1).1
      omega
  | succ n ih =>
    intro v hv hC hn
    by_cases e : v = r
    · subst e; exact ⟨0, fun _ => v, fun _ => 0, rfl, rfl, fun i hi => by omega, fun i hi => hC⟩
    · obtain ⟨l, u, a1, a2, a3, a4, _⟩ := H.2.2.1 v hv e hC
      have hw := W.2.2.1 l (W.1 l u v a1).1
      obtain ⟨k, c, le, c0, ck, cj, cf⟩ := ih u (W.1 l u v a1).2.1 a3 (by omega)
      have hc : ∀ i, i ≤ k → sn c (k + 1) v i = c i := fun i hi => sn_ne (by omega)
      have hl : ∀ i, i < k → sn le k l i = le i := fun i hi => sn_ne (by omega)
      refine ⟨k + 1, sn c (k + 1) v, sn le k l, by rw [hc 0 (by omega)]; exact c0, sn_at, fun i hi => ?_, fun i hi => ?_⟩
      · by_cases ei : i = k
        · subst ei
          rw [sn_at, sn_at, hc i (by omega), ck]; exact ⟨a1, a2, a4⟩
        · rw [hl i (by omega), hc i (by omega), hc (i + 1) (by omega)]; exact cj i (by omega)
      · by_cases ei : i = k + 1
        · subst ei; rw [sn_at]; exact hC
        · rw [hc i (by omega)]; exact cf i (by omega)
