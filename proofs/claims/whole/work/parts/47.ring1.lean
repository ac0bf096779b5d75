/-! THE FIRST RING: the class -/
def zG (m m' : aj_M) : Prop := (∀ r, r ∉ ([[8, 0], [2, 8, 0], [3, 8, 0], [10, 3, 8, 0], [11, 3, 8, 0], [12, 3, 8, 0], [13, 3, 8, 0], [14, 3, 8, 0]] : List (List Nat)) → m' r = m r) ∧ (∀ j, j ≠ 15 → j ≠ 16 → m' [3, 8, 0] j = m [3, 8, 0] j) ∧ ((∀ k, rI (m [12, 3, 8, 0] k)) → ∀ k, rI (m' [12, 3, 8, 0] k))
theorem zG_refl {m : aj_M} : zG m m := ⟨fun _ _ => rfl, fun _ _ _ => rfl, fun h => h⟩
theorem zG_tr {m m' m'' : aj_M} (h : zG m m') (h' : zG m' m'') : zG m m'' := ⟨fun r hr => (h'.1 r hr).trans (h.1 r hr), fun j h1 h2 => (h'.2.1 j h1 h2).trans (h.2.1 j h1 h2), fun hv => h'.2.2 (h.2.2 hv)⟩
theorem zG_nC {m m' : aj_M} {N L : Nat} {a b s e : Nat → Nat} (h : zG m m') (H : nC m [3, 8, 0] N L a b s e) : nC m' [3, 8, 0] N L a b s e := nC_of H (h.2.1 0 (by decide) (by decide)) (h.2.1 1 (by decide) (by decide)) (h.1 _ (by decide)) (h.1 _ (by decide)) (h.1 _ (by decide)) (h.1 _ (by decide))
theorem zG_nB {m : aj_M} {d vi br qu : Nat → Int} (hv : ∀ k, rI (vi k)) : zG m (nB m [3, 8, 0] d vi br qu) := by
  have h := zN_nB (q := [3, 8, 0]) (m := m) (d := d) (br := br) (qu := qu) hv
  refine ⟨fun r hr => h.1 r (fun hm => hr ?_), fun j h1 _ => h.2.1 j h1, h.2.2⟩
  simp only [List.mem_cons, List.not_mem_nil, or_false] at hm ⊢
  rcases hm with h | h | h | h | h | h <;> simp [h]
theorem zG_u {m : aj_M} {p : List Nat} {j : Nat} {x : Int} (hp : p = [8, 0] ∨ p = [2, 8, 0]) : zG m (aj_u m p j x) := by
  have h1 : p ≠ [3, 8, 0] := by rcases hp with rfl | rfl <;> decide
  have h2 : p ≠ [12, 3, 8, 0] := by rcases hp with rfl | rfl <;> decide
  refine ⟨fun r hr => aj_u_off (fun e => hr ?_), fun j _ _ => by rw [aj_u_off (Ne.symm h1)], fun hv => by rw [aj_u_off (Ne.symm h2)]; exact hv⟩
  rw [e]; rcases hp with rfl | rfl <;> decide
theorem zG_16 {m : aj_M} {x : Int} : zG m (aj_u m [3, 8, 0] 16 x) := by
  refine ⟨fun r hr => aj_u_off (fun e => hr (by rw [e]; decide)), fun j _ h2 => by rw [aj_u_at, if_neg h2], fun hv => by rw [aj_u_off (by decide)]; exact hv⟩
def zlA (N L : Nat) (a b s e : Nat → Nat) (d : Nat → Int) (u : Nat) (D : Int) (i : Nat) (z : Int) : Prop := (z = -1 ∧ ∀ j, s u ≤ j → j < i → ∀ v, zJ N L a b (e j) u v → d v ≠ D) ∨ (∃ v : Nat, z = v ∧ v < N ∧ zjn L a b u v ≠ 0 ∧ d v = D ∧ ∀ j, s u ≤ j → j < i → ∀ v', zJ N L a b (e j) u v' → d v' = D → v ≤ v')
theorem pX8_leastAt {f : Nat} {Φ : Int → aj_M → Prop} {m : aj_M} {N L : Nat} {a b s e : Nat → Nat} (H : nC m [3, 8, 0] N L a b s e) {d : Nat → Int} (h10 : m [10, 3, 8, 0] = d) (hd : ∀ v, v < N → -1 ≤ d v ∧ d v < N) {u : Nat} (hu : u < N) {D : Int} (hD : rI D) (hf : 300 ≤ f) (h1 : ∀ v : Nat, zjn L a b u v ≠ 0 → d v = D → (∀ v', zjn L a b u v' ≠ 0 → d v' = D → v ≤ v') → Φ v m) (h0 : (∀ v, zjn L a b u v ≠ 0 → d v ≠ D) → Φ (-1) m) : wX8_leastAt f Φ [8, 0] u D m := by
  have hab := H.2.2.2.2.2.1.1
  obtain ⟨g0, g1, gN1, gN, gL, gE, g2, g8, g9⟩ := H
  obtain ⟨e1, e2, e3, e4, e5, e6⟩ := gE
  have hs := e2 u hu
  unfold wX8_leastAt
  rw [Int.toNat_natCast]
  have g8u : m (8 :: 3 :: [8, 0]) u = s u := g8 u (by omega)
  rw [g8u]
  refine ⟨⟨by omega, by omega⟩, ?_⟩
  have key : ∀ (k i : Nat) (z : Int), s u ≤ i → i ≤ s (u + 1) → s (u + 1) - i < k → zlA N L a b s e d u D i z → hX8_leastAt_13 f Φ k [8, 0] u D z i m := by
    intro k
    induction k with
    | zero => intro i z a1 a2 a3; omega
    | succ k ih =>
      intro i z a1 a2 a3 a4
      unfold hX8_leastAt_13
      have g8u' : m (8 :: 3 :: [8, 0]) (u + 1) = s (u + 1) := g8 (u + 1) (by omega)
      rw [zt1, g8u', Int.toNat_natCast]
      refine ⟨⟨by omega, by omega⟩, ⟨by omega, by omega⟩, ⟨by omega, by omega⟩, fun c => ?_, fun c => ⟨⟨by omega, by omega⟩, ?_⟩⟩
      · have all : ∀ v, zjn L a b u v ≠ 0 → ∃ j, s u ≤ j ∧ j < i ∧ zJ N L a b (e j) u v := by
          intro v hv
          obtain ⟨l, hl⟩ := (zjn_pos hab).mp hv
          obtain ⟨j, j1, j2, j3⟩ := e4 l u v hl
          exact ⟨j, j1, by omega, by rw [j3]; exact hl⟩
        rcases a4 with ⟨rfl, h⟩ | ⟨v, rfl, hvN, hv, hdv, h⟩
        · refine h0 (fun v hv => ?_)
          obtain ⟨j, j1, j2, j3⟩ := all v hv
          exact h j j1 j2 v j3
        · refine h1 v hv hdv (fun v' hv' hdv' => ?_)
          obtain ⟨j, j1, j2, j3⟩ := all v' hv'
          exact h j j1 j2 v' j3 hdv'
      · have g9' : m (9 :: 3 :: [8, 0]) i = e i := g9 u i hu a1 (by omega)
        rw [g9']
        have hei := e3 u i hu a1 (by omega)
        refine pX5_otherEnd gL gN (m := m) g2 e1 hei.1 hei.2 ?_
        intro v hjn
        have hvN := hjn.2.2.1
        have hdv := hd v hvN
        have hj : zjn L a b u v ≠ 0 := (zjn_pos hab).mpr ⟨_, hjn⟩
        have h10' : m (10 :: 3 :: [8, 0]) = d := h10
        rw [h10', Int.toNat_natCast]
        have un : ∀ j v', j = i → zJ N L a b (e j) u v' → v' = v := fun j v' ej hj' => by subst ej; exact zJ_other hj' hjn
        refine ⟨⟨by omega, by omega⟩, ⟨by omega, by omega⟩, hD, fun c2 => ih (i + 1) z (by omega) (by omega) (by omega) ?_, fun c2 => ?_⟩
        · rcases a4 with ⟨rfl, h⟩ | ⟨v0, rfl, hv0N, hv0, hdv0, h⟩
          · refine Or.inl ⟨rfl, fun j j1 j2 v' hj' => ?_⟩
            by_cases ej : j = i
            · rw [un j v' ej hj']; exact c2
            · exact h j j1 (by omega) v' hj'
          · refine Or.inr ⟨v0, rfl, hv0N, hv0, hdv0, fun j j1 j2 v' hj' hd' => ?_⟩
            by_cases ej : j = i
            · rw [un j v' ej hj'] at hd'; exact absurd hd' c2
            · exact h j j1 (by omega) v' hj' hd'
        · have new : (∀ j, s u ≤ j → j < i → ∀ v', zJ N L a b (e j) u v' → d v' = D → v ≤ v') → hX8_leastAt_13 f Φ k [8, 0] u D v ((i : Int) + 1) m := by
            intro h
            refine ih (i + 1) v (by omega) (by omega) (by omega) (Or.inr ⟨v, rfl, hvN, hj, c2, fun j j1 j2 v' hj' hd' => ?_⟩)
            by_cases ej : j = i
            · rw [un j v' ej hj']; exact Nat.le_refl _
            · exact h j j1 (by omega) v' hj' hd'
          rcases a4 with ⟨rfl, h⟩ | ⟨v0, rfl, hv0N, hv0, hdv0, h⟩
          · exact ⟨by decide, fun _ => new (fun j j1 j2 v' hj' hd' => absurd hd' (h j j1 j2 v' hj')), fun c3 => absurd (by decide) c3⟩
          · refine ⟨⟨by omega, by omega⟩, fun c3 => by omega, fun _ => ⟨⟨by omega, by omega⟩, ⟨by omega, by omega⟩, fun c3 => ?_, fun c3 => new (fun j j1 j2 v' hj' hd' => ?_)⟩⟩
            · refine ih (i + 1) v0 (by omega) (by omega) (by omega) (Or.inr ⟨v0, rfl, hv0N, hv0, hdv0, fun j j1 j2 v' hj' hd' => ?_⟩)
              by_cases ej : j = i
              · rw [un j v' ej hj']; omega
              · exact h j j1 (by omega) v' hj' hd'
            · have := h j j1 j2 v' hj' hd'; omega
  exact key f (s u) (-1) (Nat.le_refl _) hs.1 (by omega) (Or.inl ⟨rfl, fun j j1 j2 => by omega⟩)
theorem zUR_congr {N L : Nat} {a b : Nat → Nat} {g : Nat} {x y : Nat → Nat} (h : zUR N L a b g y) (e : ∀ i, i < g → y i = x i) : zUR N L a b g x := by
  obtain ⟨h1, h2, h3, h4, h5, h6⟩ := h
  refine ⟨h1, by rw [← e 0 (by omega)]; exact h2, fun i i1 i2 => by rw [← e 0 (by omega), ← e i i2]; exact h3 i i1 i2, fun i j i1 i2 => by rw [← e i (by omega), ← e j i2]; exact h4 i j i1 i2, fun i hi => by rw [← e i (by omega), ← e (i + 1) hi]; exact h5 i hi, by rw [← e (g - 1) (by omega), ← e 0 (by omega)]; exact h6⟩
theorem pX8_findRest {f : Nat} {Φ : Int → aj_M → Prop} {m0 : aj_M} {N L : Nat} {a b s e : Nat → Nat} (H0 : nC m0 [3, 8, 0] N L a b s e) (hvi : ∀ k, rI (m0 [12, 3, 8, 0] k)) {g : Nat} (hg3 : 3 ≤ g) (hgN : g ≤ 60) (hmin : ∀ r' k', zTW N L a b r' k' → g ≤ k') (hf : 300 ≤ f) {x0 w : Nat} {B0 : Nat} (hB0 : B0 < 2 ^ 60) {m : aj_M} (hG : zG m0 m) (h1 : m [8, 0] 1 = g) (h0 : m [8, 0] 0 = m0 [8, 0] 0) (hp0 : m [2, 8, 0] 0 = x0) (hp1 : m [2, 8, 0] 1 = w) (hB : m [3, 8, 0] 16 = B0) (hx0 : x0 < N) (hw : x0 < w ∧ w < N) (hxw : zjn L a b x0 w ≠ 0) (hbr : ∀ v, v < N → (B0.testBit v = true ↔ v < x0 ∨ w = v))
    (hy : ∀ (m' : aj_M) (x : Nat → Nat), zG m0 m' → m' [8, 0] 1 = g → m' [8, 0] 0 = m0 [8, 0] 0 → (∀ i, i < g → m' [2, 8, 0] i = x i) → zUR N L a b g x → x 0 = x0 → x 1 = w → (∀ y, zUR N L a b g y → y 0 = x0 → y 1 = w → zlex g x y) → Φ 1 m')
    (hn : ∀ m' : aj_M, zG m0 m' → m' [8, 0] 1 = g → m' [8, 0] 0 = m0 [8, 0] 0 → m' [2, 8, 0] 0 = x0 → m' [3, 8, 0] 16 = B0 → (∀ y, zUR N L a b g y → y 0 = x0 → y 1 = w → False) → Φ 0 m') : wX8_findRest f Φ [8, 0] x0 m := by
  have hab := H0.2.2.2.2.2.1.1
  have hN : N ≤ 60 := H0.2.2.2.1
  unfold wX8_findRest
  have key : ∀ (kk k : Nat) (m : aj_M) (x : Nat → Nat) (B : Nat), 1 ≤ k → k ≤ g - 1 → g - k < kk → zG m0 m → m [8, 0] 1 = g → m [8, 0] 0 = m0 [8, 0] 0 → (∀ i, i ≤ k → m [2, 8, 0] i = x i) → m [3, 8, 0] 16 = B → B < 2 ^ 60 → (k = 1 → B = B0) → x 0 = x0 → x 1 = w → zPx N L a b k x → zBr B.testBit k x N → (2 ≤ k → ∃ y, zUR N L a b g y ∧ ∀ j, j ≤ k → y j = x j) → (∀ y, zUR N L a b g y → y 0 = x0 → y 1 = w → (∀ j, j ≤ k → x j = y j) ∨ ∃ i, i ≤ k ∧ (∀ j, j < i → x j = y j) ∧ x i < y i) → hX8_findRest_2 f Φ kk [8, 0] x0 k m := by
    intro kk
    induction kk with
    | zero => intro k m x B a1 a2 a3; omega
    | succ kk ih =>
      intro k m x B a1 a2 a3 hG h1 h0 hp hB hB2 hB1 ex0 ex1 hPx hBr hex hlx
      have Hm := zG_nC hG H0
      unfold hX8_findRest_2
      rw [h1]
      refine ⟨⟨by omega, by omega⟩, ⟨by omega, by omega⟩, fun c => ?_, fun c => ?_⟩
      · have ek : k = g - 1 := by omega
        obtain ⟨y, hyU, hyx⟩ := hex (by omega)
        refine hy m x hG h1 h0 (fun i hi => hp i (by omega)) (zUR_congr hyU (fun i hi => hyx i (by omega))) ex0 ex1 (fun y' hy' e0 e1 => ?_)
        rcases hlx y' hy' e0 e1 with h | ⟨i, i1, i2, i3⟩
        · exact Or.inl (fun i hi => h i (by omega))
        · exact Or.inr ⟨i, by omega, i2, i3⟩
      · have hkg : k + 1 < g := by omega
        refine pX5_spread (q := 3 :: [8, 0]) Hm hB (by omega) hx0 hf (hG.2.2 hvi) ?_
        intro t d vi br qu xq HBI HC Hq Hvi
        rw [← ex0] at HC
        have hlt := (zBI_lt HBI).2
        have r2 : nB m (3 :: [8, 0]) d vi br qu (2 :: [8, 0]) = m [2, 8, 0] := nB_off (by decide) (by decide) (by decide) (by decide)
        have r8 : nB m (3 :: [8, 0]) d vi br qu [8, 0] = m [8, 0] := nB_off (by decide) (by decide) (by decide) (by decide)
        have hxk : x k < N := by
          by_cases ek : k = 0
          · omega
          · exact (hPx.2.1 k (by omega) (Nat.le_refl _)).2
        rw [r2, r8, Int.toNat_natCast, hp k (Nat.le_refl _), h1]
        have hDe : ((g : Int) - 1) - k = ((g - 1 - k : Nat) : Int) := by omega
        rw [hDe]
        have hG2 : zG m0 (nB m (3 :: [8, 0]) d vi br qu) := zG_tr hG (zG_nB Hvi)
        refine ⟨⟨by omega, by omega⟩, pX8_leastAt (nB_nC Hm) nB_r10 hlt hxk ⟨by omega, by omega⟩ hf ?_ ?_⟩
        · intro v hv hdv hleast
          have hvN : v < N := by
            obtain ⟨l, hl⟩ := (zjn_pos hab).mp hv
            exact hl.2.2.1
          obtain ⟨y, hyU, hyx, hyv⟩ := zR2 hab a1 hkg hPx hBr HC hv (by rw [hdv]; omega)
          refine ⟨⟨by omega, by omega⟩, fun _ => ⟨⟨by omega, by omega⟩, ?_⟩, fun c => by omega⟩
          rintro _ rfl
          rintro _ rfl
          have h2v : 2 ^ v < 2 ^ 60 := Nat.pow_lt_pow_right (by decide) (by omega)
          have r16 : aj_u (nB m (3 :: [8, 0]) d vi br qu) (2 :: [8, 0]) ((k : Int) + 1).toNat v (3 :: [8, 0]) 16 = B := by
            rw [aj_u_off (by decide), nB_r0]; exact hB
          rw [r16, zl_shl (by omega), zl_or (by omega) (by omega)]
          have hx' : ∀ i, i ≤ k → sn x (k + 1) v i = x i := fun i hi => sn_ne (by omega)
          refine ih (k + 1) _ (sn x (k + 1) v) (B ||| 2 ^ v) (by omega) (by omega) (by omega) (zG_tr hG2 (zG_tr (zG_u (Or.inr rfl)) zG_16)) ?_ ?_ ?_ ?_ (Nat.or_lt_two_pow hB2 h2v) (fun h => by omega) (by rw [hx' 0 (by omega)]; exact ex0) (by rw [hx' 1 a1]; exact ex1) ?_ ?_ (fun _ => ⟨y, hyU, fun j hj => ?_⟩) ?_
          · rw [aj_u_off (by decide), aj_u_off (by decide), r8, h1]
          · rw [aj_u_off (by decide), aj_u_off (by decide), r8, h0]
          · intro i hi
            rw [aj_u_off (by decide), aj_u_at, r2]
            by_cases ei : i = k + 1
            · subst ei; rw [if_pos (by omega), sn_at]
            · rw [if_neg (by omega), hx' i (by omega)]; exact hp i (by omega)
          · rw [aj_u_at, if_pos rfl]
          · -- the prefix
            have yk : ∀ i, i ≤ k + 1 → sn x (k + 1) v i = y i := by
              intro i hi
              by_cases ei : i = k + 1
              · subst ei; rw [sn_at, hyv]
              · rw [hx' i (by omega), hyx i (by omega)]
            refine ⟨by rw [yk 0 (by omega)]; exact hyU.2.1, fun i i1 i2 => ?_, fun i j i1 i2 => ?_, fun i hi => ?_⟩
            · rw [yk 0 (by omega), yk i i2]; exact hyU.2.2.1 i i1 (by omega)
            · rw [yk i (by omega), yk j i2]; exact hyU.2.2.2.1 i j i1 (by omega)
            · rw [yk i (by omega), yk (i + 1) hi]; exact hyU.2.2.2.2.1 i (by omega)
          · intro u hu
            rw [zt_or, hx' 0 (by omega)]
            simp only [Bool.or_eq_true, decide_eq_true_eq]
            rw [hBr u hu]
            constructor
            · rintro ((h | ⟨j, j1, j2, j3⟩) | h)
              · exact Or.inl h
              · exact Or.inr ⟨j, j1, by omega, by rw [hx' j j2]; exact j3⟩
              · exact Or.inr ⟨k + 1, by omega, Nat.le_refl _, by rw [sn_at]; exact h⟩
            · rintro (h | ⟨j, j1, j2, j3⟩)
              · exact Or.inl (Or.inl h)
              · by_cases ej : j = k + 1
                · subst ej; rw [sn_at] at j3; exact Or.inr j3
                · rw [hx' j (by omega)] at j3; exact Or.inl (Or.inr ⟨j, j1, by omega, j3⟩)
          · by_cases ej : j = k + 1
            · subst ej; rw [sn_at, hyv]
            · rw [hx' j (by omega)]; exact hyx j (by omega)
          · intro y' hy' e0 e1
            rcases hlx y' hy' e0 e1 with h | ⟨i, i1, i2, i3⟩
            · have hBr' : zBr B.testBit k y' N := by
                intro u hu
                rw [hBr u hu, h 0 (by omega)]
                constructor
                · rintro (h' | ⟨j, j1, j2, j3⟩)
                  · exact Or.inl h'
                  · exact Or.inr ⟨j, j1, j2, by rw [← h j j2]; exact j3⟩
                · rintro (h' | ⟨j, j1, j2, j3⟩)
                  · exact Or.inl h'
                  · exact Or.inr ⟨j, j1, j2, by rw [h j j2]; exact j3⟩
              have HC' := HC
              rw [h 0 (by omega)] at HC'
              have hd' := zR1 hab hmin hy' a1 hkg hBr' HC'
              have hle := hleast (y' (k + 1)) (by rw [h k (Nat.le_refl _)]; exact hy'.2.2.2.2.1 k hkg) (by rw [hd']; omega)
              rcases Nat.lt_or_ge v (y' (k + 1)) with h9 | h9
              · refine Or.inr ⟨k + 1, Nat.le_refl _, fun j hj => ?_, by rw [sn_at]; exact h9⟩
                rw [hx' j (by omega)]; exact h j (by omega)
              · refine Or.inl (fun j hj => ?_)
                by_cases ej : j = k + 1
                · subst ej; rw [sn_at]; omega
                · rw [hx' j (by omega)]; exact h j (by omega)
            · exact Or.inr ⟨i, by omega, fun j hj => by rw [hx' j (by omega)]; exact i2 j hj, by rw [hx' i i1]; exact i3⟩
        · intro hno
          refine ⟨by decide, fun c => absurd c (by decide), fun _ => ?_⟩
          -- what agrees with the prefix can't go on
          have dead : ∀ y, zUR N L a b g y → (∀ j, j ≤ k → x j = y j) → False := by
            intro y hyU h
            have hBr' : zBr B.testBit k y N := by
              intro u hu
              rw [hBr u hu, h 0 (by omega)]
              constructor
              · rintro (h' | ⟨j, j1, j2, j3⟩)
                · exact Or.inl h'
                · exact Or.inr ⟨j, j1, j2, by rw [← h j j2]; exact j3⟩
              · rintro (h' | ⟨j, j1, j2, j3⟩)
                · exact Or.inl h'
                · exact Or.inr ⟨j, j1, j2, by rw [h j j2]; exact j3⟩
            have HC' := HC
            rw [h 0 (by omega)] at HC'
            have hd' := zR1 hab hmin hyU a1 hkg hBr' HC'
            exact hno (y (k + 1)) (by rw [h k (Nat.le_refl _)]; exact hyU.2.2.2.2.1 k hkg) (by rw [hd']; omega)
          by_cases hk1 : k = 1
          · subst hk1
            refine hn _ hG2 (by rw [r8, h1]) (by rw [r8, h0]) ?_ ?_ (fun y hyU e0 e1 => dead y hyU (fun j hj => ?_))
            · have r2' : nB m (3 :: [8, 0]) d vi br qu [2, 8, 0] = m [2, 8, 0] := r2
              rw [r2', hp 0 (by omega), ex0]
            · have r0' : nB m (3 :: [8, 0]) d vi br qu [3, 8, 0] = m [3, 8, 0] := nB_r0
              rw [r0', hB, hB1 rfl]
            · have : j = 0 ∨ j = 1 := by omega
              rcases this with rfl | rfl
              · rw [ex0, e0]
              · rw [ex1, e1]
          · obtain ⟨y, hyU, hyx⟩ := hex (by omega)
            exact (dead y hyU (fun j hj => (hyx j hj).symm)).elim
  refine key f 1 m (fun i => if i = 0 then x0 else w) B0 (by omega) (by omega) (by omega) hG h1 h0 (fun i hi => ?_) hB hB0 (fun _ => rfl) rfl rfl ⟨hx0, fun i i1 i2 => ?_, fun i j i1 i2 => ?_, fun i hi => ?_⟩ ?_ (fun h => by omega) (fun y hyU e0 e1 => Or.inl (fun j hj => ?_))
  · have : i = 0 ∨ i = 1 := by omega
    rcases this with rfl | rfl
    · exact hp0
    · exact hp1
  · rw [show i = 1 by omega]; exact hw
  · rw [show i = 0 by omega, show j = 1 by omega]; show x0 ≠ w; omega
  · rw [show i = 0 by omega]; exact hxw
  · intro v hv
    rw [hbr v hv]
    constructor
    · rintro (h | h)
      · exact Or.inl h
      · exact Or.inr ⟨1, by omega, by omega, h⟩
    · rintro (h | ⟨j, j1, j2, j3⟩)
      · exact Or.inl h
      · rw [show j = 1 by omega] at j3; exact Or.inr j3
  · have : j = 0 ∨ j = 1 := by omega
    rcases this with rfl | rfl
    · exact e0.symm
    · exact e1.symm
