/-! THE FIRST RING: the reference -/
def zOR (N L : Nat) (a b : Nat → Nat) (g : Nat) (x : Nat → Nat) : Prop := zUR N L a b g x ∧ (3 ≤ g → x 1 < x (g - 1))
theorem zlex_tr {g : Nat} {x y z : Nat → Nat} (h : zlex g x y) (h' : zlex g y z) : zlex g x z := by
  rcases h with h | ⟨i, i1, i2, i3⟩
  · rcases h' with h' | ⟨j, j1, j2, j3⟩
    · exact Or.inl (fun i hi => (h i hi).trans (h' i hi))
    · exact Or.inr ⟨j, j1, fun k hk => (h k (by omega)).trans (j2 k hk), by rw [h j j1]; exact j3⟩
  · rcases h' with h' | ⟨j, j1, j2, j3⟩
    · exact Or.inr ⟨i, i1, fun k hk => (i2 k hk).trans (h' k (by omega)), by rw [← h' i i1]; exact i3⟩
    · rcases Nat.lt_trichotomy i j with c | c | c
      · exact Or.inr ⟨i, i1, fun k hk => (i2 k hk).trans (j2 k (by omega)), by rw [← j2 i c]; exact i3⟩
      · subst c; exact Or.inr ⟨i, i1, fun k hk => (i2 k hk).trans (j2 k hk), by omega⟩
      · exact Or.inr ⟨j, j1, fun k hk => (i2 k (by omega)).trans (j2 k hk), by rw [i2 j c]; exact j3⟩
theorem zUR_rev {N L : Nat} {a b : Nat → Nat} {g : Nat} {x : Nat → Nat} (h : zUR N L a b g x) (hg : 3 ≤ g) : zUR N L a b g (fun i => if i = 0 then x 0 else x (g - i)) := by
  obtain ⟨h1, h2, h3, h4, h5, h6⟩ := h
  refine ⟨h1, h2, fun i i1 i2 => ?_, fun i j i1 i2 => ?_, fun i hi => ?_, ?_⟩
  · show (if 0 = 0 then x 0 else _) < (if i = 0 then x 0 else x (g - i)) ∧ (if i = 0 then x 0 else x (g - i)) < N
    rw [if_pos rfl, if_neg (by omega)]; exact h3 (g - i) (by omega) (by omega)
  · show (if i = 0 then x 0 else x (g - i)) ≠ (if j = 0 then x 0 else x (g - j))
    rw [if_neg (show ¬ j = 0 by omega)]
    by_cases e : i = 0
    · rw [if_pos e]; exact h4 0 (g - j) (by omega) (by omega)
    · rw [if_neg e]; exact Ne.symm (h4 (g - j) (g - i) (by omega) (by omega))
  · show zjn L a b (if i = 0 then x 0 else x (g - i)) (if i + 1 = 0 then x 0 else x (g - (i + 1))) ≠ 0
    rw [if_neg (show ¬ i + 1 = 0 by omega), zjn_sym]
    by_cases e : i = 0
    · subst e; rw [if_pos rfl]; rw [show g - (0 + 1) = g - 1 by omega]; omega
    · rw [if_neg e]
      have := h5 (g - (i + 1)) (by omega)
      rwa [show g - (i + 1) + 1 = g - i by omega] at this
  · show (if g = 2 then 1 else 0) < zjn L a b (if g - 1 = 0 then x 0 else x (g - (g - 1))) (if 0 = 0 then x 0 else _)
    rw [if_neg (by omega), if_neg (by omega), if_pos rfl, show g - (g - 1) = 1 by omega, zjn_sym]
    exact Nat.pos_of_ne_zero (h5 0 (by omega))
theorem zOR_ex {N L : Nat} {a b : Nat → Nat} {g : Nat} {x : Nat → Nat} (h : zUR N L a b g x) : ∃ y, zOR N L a b g y ∧ zlex g y x ∧ y 0 = x 0 := by
  by_cases hg : 3 ≤ g
  · by_cases c : x 1 < x (g - 1)
    · exact ⟨x, ⟨h, fun _ => c⟩, Or.inl (fun _ _ => rfl), rfl⟩
    · have hne := h.2.2.2.1 1 (g - 1) (by omega) (by omega)
      refine ⟨_, ⟨zUR_rev h hg, fun _ => ?_⟩, Or.inr ⟨1, by omega, fun j hj => ?_, ?_⟩, rfl⟩
      · show (if 1 = 0 then x 0 else x (g - 1)) < (if g - 1 = 0 then x 0 else x (g - (g - 1)))
        rw [if_neg (by decide), if_neg (by omega), show g - (g - 1) = 1 by omega]; omega
      · rw [show j = 0 by omega]; rfl
      · show (if 1 = 0 then x 0 else x (g - 1)) < x 1
        rw [if_neg (by decide)]; omega
  · exact ⟨x, ⟨h, fun h => absurd h hg⟩, Or.inl (fun _ _ => rfl), rfl⟩
theorem pX12_isGone {f : Nat} {Φ : Int → aj_M → Prop} {q : List Nat} {m : aj_M} {n place : Nat} {x : Nat → Nat} (hp : place ≤ 60) (hx : ∀ i, i < place → m (30 :: q) i = x i) (hxb : ∀ i, i < place → x i < 60) (hn : n < 60) (hf : 300 ≤ f) (h1 : (∃ i, i < place ∧ x i = n) → Φ 1 m) (h0 : (∀ i, i < place → x i ≠ n) → Φ 0 m) : wX12_isGone f Φ q n place m := by
  unfold wX12_isGone
  refine zfor (H := fun k i (_ : Nat) => hX12_isGone_2 f Φ k q n place i m) (N := place) (fun i _ => ∀ j, j < i → x j ≠ n) ?_ f 0 0 (by omega) (by omega) (fun j hj => by omega)
  intro k i _ hi hI hnx
  unfold hX12_isGone_2
  refine ⟨⟨by omega, by omega⟩, ⟨by omega, by omega⟩, fun c => h0 (fun j hj => hI j (by omega)), fun c => ?_⟩
  have := hxb i (by omega)
  rw [Int.toNat_natCast, hx i (by omega)]
  refine ⟨⟨by omega, by omega⟩, ⟨by omega, by omega⟩, ⟨by omega, by omega⟩, fun c2 => hnx (by omega) 0 (fun j hj => ?_), fun c2 => h1 ⟨i, by omega, by omega⟩⟩
  by_cases e : j = i
  · subst e; omega
  · exact hI j (by omega)
theorem rg_go {f : Nat} {q : List Nat} {m : aj_M} {N L : Nat} {a b : Nat → Nat} (H : nR m q N L a b) (hJ : ∀ u v, u < 60 → v < 60 → m (21 :: q) (60 * u + v) = zjn L a b u v) {g : Nat} (hg1 : 1 ≤ g) (hg : g ≤ 60) (hf : 300 ≤ f) : ∀ (d place : Nat) (Φ : Int → aj_M → Prop) (row : Nat → Int) (x : Nat → Nat), 1 ≤ place → place ≤ g → g - place < d → (∀ i, i < place → row i = x i) → zPx N L a b (place - 1) x → (∀ (row' : Nat → Int) (x' : Nat → Nat), (∀ i, i < g → row' i = x' i) → zOR N L a b g x' → (∀ i, i < place → x' i = x i) → (∀ y, zOR N L a b g y → (∀ i, i < place → y i = x i) → zlex g x' y) → Φ 1 (aj_ur m (30 :: q) row')) → (∀ row' : Nat → Int, (∀ i, i < place → row' i = x i) → (∀ y, zOR N L a b g y → (∀ i, i < place → y i = x i) → False) → Φ 0 (aj_ur m (30 :: q) row')) → rG2 f d 0 Φ q place g (aj_ur m (30 :: q) row) := by
  have hN : N ≤ 60 := H.2.2.2.1
  have hL : L ≤ 144 := H.2.2.2.2.1
  have hab := H.2.2.2.2.2.1
  have r30 : ∀ row : Nat → Int, aj_ur m (30 :: q) row (30 :: q) = row := fun row => by rw [zr_ur, if_pos rfl]
  have r21 : ∀ row : Nat → Int, aj_ur m (30 :: q) row (21 :: q) = m (21 :: q) := fun row => by rw [zr_ur, if_neg (by simp)]
  have r0 : ∀ row : Nat → Int, aj_ur m (30 :: q) row q = m q := fun row => by rw [zr_ur, if_neg (by simp)]
  intro d
  induction d with
  | zero => intro place Φ row x a1 a2 a3; omega
  | succ d ih =>
    intro place Φ row x a1 a2 a3 hrow hPx hy hn
    have hxb : ∀ i, i < place → x i < N := by
      intro i hi
      by_cases e : i = 0
      · subst e; exact hPx.1
      · exact (hPx.2.1 i (by omega) (by omega)).2
    show (if (0 : Nat) = 0 then wbX12_isRing f Φ (rG2 f d) q place g (aj_ur m (30 :: q) row) else False)
    rw [if_pos rfl]
    unfold wbX12_isRing
    have hl := hxb (place - 1) (by omega)
    have h00 := hxb 0 (by omega)
    have et : ((place : Int) - 1).toNat = place - 1 := by omega
    simp only [r30, r21, et, Int.toNat_zero, hrow (place - 1) (by omega), hrow 0 (by omega)]
    refine ⟨⟨by omega, by omega⟩, ⟨by omega, by omega⟩, ⟨by omega, by omega⟩, fun c => ?_, fun c => ?_⟩
    · have hpg : place < g := by omega
      -- the loop
      have key : ∀ (k n : Nat) (row : Nat → Int), x 0 + 1 ≤ n → n ≤ N → N - n < k → (∀ i, i < place → row i = x i) → (∀ y, zOR N L a b g y → (∀ i, i < place → y i = x i) → y place < n → False) → hX12_isRing_74 f Φ (rG2 f d) k q place g (x (place - 1)) n (aj_ur m (30 :: q) row) := by
        intro k
        induction k with
        | zero => intro n row b1 b2 b3; omega
        | succ k ihk =>
          intro n row b1 b2 b3 hrow hno
          unfold hX12_isRing_74
          rw [r0, r21, H.2.1]
          refine ⟨⟨by omega, by omega⟩, ⟨by omega, by omega⟩, fun c2 => ?_, fun c2 => ?_⟩
          · refine hn row hrow (fun y hyO hyx => hno y hyO hyx ?_)
            have := (hyO.1.2.2.1 place (by omega) hpg).2
            omega
          · have e60 : (60 * (x (place - 1) : Int) + (n : Int)).toNat = 60 * x (place - 1) + n := by omega
            have hjl := zjn_le (L := L) (a := a) (b := b) (u := x (place - 1)) (v := n)
            rw [e60, hJ _ _ (by omega) (by omega)]
            have skip : ∀ row : Nat → Int, (∀ i, i < place → row i = x i) → (∀ y, zOR N L a b g y → (∀ i, i < place → y i = x i) → y place = n → False) → hX12_isRing_74 f Φ (rG2 f d) k q place g (x (place - 1)) ((n : Int) + 1) (aj_ur m (30 :: q) row) := by
              intro row hrow hno2
              refine ihk (n + 1) row (by omega) (by omega) (by omega) hrow (fun y hyO hyx hyn => ?_)
              by_cases e : y place = n
              · exact hno2 y hyO hyx e
              · exact hno y hyO hyx (by omega)
            refine ⟨⟨by omega, by omega⟩, ⟨by omega, by omega⟩, fun c3 => skip row hrow (fun y hyO hyx hyn => ?_), fun c3 => ?_⟩
            · have := hyO.1.2.2.2.2.1 (place - 1) (by omega)
              rw [show place - 1 + 1 = place by omega, hyx (place - 1) (by omega), hyn] at this
              omega
            · refine pX12_isGone (x := x) (by omega) (fun i hi => by rw [r30]; exact hrow i hi) (fun i hi => by have := hxb i hi; omega) (by omega) hf ?_ ?_
              · rintro ⟨i, hi, ei⟩
                refine zc1' (skip row hrow (fun y hyO hyx hyn => ?_))
                have := hyO.1.2.2.2.1 i place hi hpg
                rw [hyx i hi, ei, hyn] at this
                exact this rfl
              · intro hng
                refine zb0' ⟨⟨by omega, by omega⟩, ?_⟩
                rintro _ rfl
                rw [zu_same, Int.toNat_natCast]
                have hx' : ∀ i, i < place → sn x place n i = x i := fun i hi => sn_ne (by omega)
                refine ih (place + 1) _ (st row place n) (sn x place n) (by omega) (by omega) (by omega) (fun i hi => ?_) ?_ ?_ ?_
                · by_cases e : i = place
                  · subst e; rw [st_at, sn_at]
                  · rw [st_ne e, hx' i (by omega)]; exact hrow i (by omega)
                · rw [show place + 1 - 1 = place by omega]
                  refine ⟨by rw [hx' 0 (by omega)]; exact h00, fun i i1 i2 => ?_, fun i j i1 i2 => ?_, fun i hi => ?_⟩
                  · rw [hx' 0 (by omega)]
                    by_cases e : i = place
                    · subst e; rw [sn_at]; omega
                    · rw [hx' i (by omega)]; exact hPx.2.1 i i1 (by omega)
                  · rw [hx' i (by omega)]
                    by_cases e : j = place
                    · subst e; rw [sn_at]; exact hng i (by omega)
                    · rw [hx' j (by omega)]; exact hPx.2.2.1 i j i1 (by omega)
                  · by_cases e : i + 1 = place
                    · rw [e, sn_at, hx' i (by omega), show i = place - 1 by omega]; omega
                    · rw [hx' i (by omega), hx' (i + 1) (by omega)]; exact hPx.2.2.2 i (by omega)
                · intro row' x' q1 q2 q3 q4
                  refine zc1' (hy row' x' q1 q2 (fun i hi => by rw [q3 i (by omega), hx' i hi]) (fun y hyO hyx => ?_))
                  have e1 : x' place = n := by rw [q3 place (by omega), sn_at]
                  rcases Nat.lt_trichotomy (y place) n with h | h | h
                  · exact (hno y hyO hyx h).elim
                  · refine q4 y hyO (fun i hi => ?_)
                    by_cases e : i = place
                    · subst e; rw [sn_at]; exact h
                    · rw [hx' i (by omega)]; exact hyx i (by omega)
                  · exact Or.inr ⟨place, hpg, fun j hj => by rw [q3 j (by omega), hx' j hj, hyx j hj], by rw [e1]; exact h⟩
                · intro row' q1 q2
                  refine zb0' (skip row' (fun i hi => by rw [q1 i (by omega), hx' i hi]) (fun y hyO hyx hyn => q2 y hyO (fun i hi => ?_)))
                  by_cases e : i = place
                  · subst e; rw [sn_at]; exact hyn
                  · rw [hx' i (by omega)]; exact hyx i (by omega)
      exact key f (x 0 + 1) row (Nat.le_refl _) (by omega) (by omega) hrow (fun y hyO hyx hyn => by
        have := (hyO.1.2.2.1 place (by omega) hpg).1
        rw [hyx 0 (by omega)] at this
        omega)
    · have hpg : place = g := by omega
      subst hpg
      have e60 : (60 * (x (place - 1) : Int) + (x 0 : Int)).toNat = 60 * x (place - 1) + x 0 := by omega
      have hjl := zjn_le (L := L) (a := a) (b := b) (u := x (place - 1)) (v := x 0)
      rw [e60, hJ _ _ (by omega) (by omega)]
      have h40 : ∀ t : Nat, t = (if place = 2 then 1 else 0) → hX12_isRing_40 f Φ (rG2 f d) q place (x (place - 1)) (zjn L a b (x (place - 1)) (x 0)) (t : Nat) (aj_ur m (30 :: q) row) := by
        rintro t ht
        have ht2 : t ≤ 1 := by rw [ht]; split <;> omega
        unfold hX12_isRing_40
        simp only [r30, Int.reduceToNat]
        have yes : t < zjn L a b (x (place - 1)) (x 0) → (3 ≤ place → x 1 < x (place - 1)) → Φ 1 (aj_ur m (30 :: q) row) := by
          intro y1 y2
          refine hy row x hrow ⟨⟨by omega, h00, fun i i1 i2 => hPx.2.1 i i1 (by omega), fun i j i1 i2 => hPx.2.2.1 i j i1 (by omega), fun i hi => hPx.2.2.2 i (by omega), by rw [← ht]; exact y1⟩, y2⟩ (fun _ _ => rfl) (fun y hyO hyx => Or.inl (fun i hi => (hyx i hi).symm))
        refine ⟨⟨by omega, by omega⟩, ⟨by omega, by omega⟩, fun c2 => hn row hrow (fun y hyO hyx => ?_), fun c2 => ⟨⟨by omega, by omega⟩, fun c3 => yes (by omega) (fun h => by omega), fun c3 => ?_⟩⟩
        · have := hyO.1.2.2.2.2.2
          rw [hyx (place - 1) (by omega), hyx 0 (by omega), ← ht] at this
          omega
        · have hx1 := hxb 1 (by omega)
          rw [hrow 1 (by omega)]
          refine ⟨⟨by omega, by omega⟩, ⟨by omega, by omega⟩, fun c4 => hn row hrow (fun y hyO hyx => ?_), fun c4 => yes (by omega) (fun _ => by omega)⟩
          have := hyO.2 (by omega)
          rw [hyx 1 (by omega), hyx (place - 1) (by omega)] at this
          omega
      refine ⟨⟨by omega, by omega⟩, ⟨by omega, by omega⟩, fun c2 => h40 0 (by rw [if_neg (by omega)]), fun c2 => h40 1 (by rw [if_pos (by omega)])⟩
def zRr (N L : Nat) (a b : Nat → Nat) (z : Int) (row : Nat → Int) : Prop := (z = -1 ∧ ∀ r k, ¬ zTW N L a b r k) ∨ (∃ (g : Nat) (x : Nat → Nat), z = g ∧ g ≤ 60 ∧ 1 ≤ g ∧ (∃ r, zTW N L a b r g) ∧ (∀ r k, zTW N L a b r k → g ≤ k) ∧ zFst N L a b g x ∧ ∀ i, i < g → row i = x i)
theorem pX12_laysRing0 {f : Nat} {Φ : Int → aj_M → Prop} {q : List Nat} {m : aj_M} {N L : Nat} {a b : Nat → Nat} (H : nR m q N L a b) (hJ : ∀ u v, u < 60 → v < 60 → m (21 :: q) (60 * u + v) = zjn L a b u v) (hf : 300 ≤ f) (hK : ∀ (z : Int) (m' : aj_M), zRr N L a b z (m' (30 :: q)) → zo [24 :: q, 25 :: q, 26 :: q, 30 :: q] m m' → Φ z m') : wX12_girthNow f (fun z2 m2 => rI z2 ∧ (¬ z2 = 268435456 → hX12_laysRing_20 f Φ f q z2 0 m2) ∧ (z2 = 268435456 → Φ (-1) m2)) q m := by
  have hN : N ≤ 60 := H.2.2.2.1
  have hab := H.2.2.2.2.2.1
  refine pX12_girthNow H hf ?_
  intro z d br qu hz
  have hz1 : zo [24 :: q, 25 :: q, 26 :: q, 30 :: q] m (rB m q d br qu) := zo_mono zo_rB (fun p hp => by
    simp only [List.mem_cons, List.not_mem_nil, or_false] at hp ⊢
    rcases hp with h | h | h <;> simp [h])
  rcases hz with ⟨rfl, hno⟩ | ⟨r, g, rfl, hg2, hT, hmin⟩
  · exact ⟨by decide, fun c => absurd rfl c, fun _ => hK _ _ (Or.inl ⟨rfl, hno⟩) hz1⟩
  · obtain ⟨hgN, xu, hxu⟩ := zUR_ex hab hT hmin
    obtain ⟨xo, hxo, _, _⟩ := zOR_ex hxu
    have Hm := rB_nR (d := d) (b' := br) (u := qu) H
    generalize hM : rB m q d br qu = M at *
    have hJM : ∀ u v, u < 60 → v < 60 → M (21 :: q) (60 * u + v) = zjn L a b u v := by
      intro u v hu hv
      rw [hz1 (21 :: q) (by simp)]; exact hJ u v hu hv
    refine ⟨⟨by omega, by omega⟩, fun _ => ?_, fun c => by omega⟩
    have key : ∀ (k n : Nat) (row : Nat → Int), n ≤ N → N - n < k → (∀ y, zOR N L a b g y → y 0 < n → False) → hX12_laysRing_20 f Φ k q g n (aj_ur M (30 :: q) row) := by
      intro k
      induction k with
      | zero => intro n row b1 b2; omega
      | succ k ih =>
        intro n row b1 b2 hno
        unfold hX12_laysRing_20
        rw [zr_ur, if_neg (by simp), Hm.2.1]
        refine ⟨⟨by omega, by omega⟩, ⟨by omega, by omega⟩, fun c => (hno xo hxo (by have := hxo.1.2.1; omega)).elim, fun c => ?_⟩
        rintro _ rfl
        rw [zu_same, Int.toNat_zero]
        unfold wX12_isRing
        refine rg_go Hm hJM hT.1 (by omega) hf 64 1 _ (st row 0 n) (fun _ => n) (by omega) hT.1 (by omega) (fun i hi => by rw [show i = 0 by omega, st_at]) ⟨show n < N by omega, fun i i1 i2 => by omega, fun i j i1 i2 => by omega, fun i hi => by omega⟩ ?_ ?_
        · intro row' x' q1 q2 q3 q4
          refine zc1' (hK _ _ (Or.inr ⟨g, x', rfl, by omega, hT.1, ⟨r, hT⟩, hmin, ⟨q2.1, fun y hyU => ?_⟩, fun i hi => ?_⟩) ?_)
          · obtain ⟨y', hy'O, hy'l, hy'0⟩ := zOR_ex hyU
            refine zlex_tr ?_ hy'l
            have e0 : x' 0 = n := q3 0 (by omega)
            rcases Nat.lt_trichotomy (y' 0) n with h | h | h
            · exact (hno y' hy'O h).elim
            · exact q4 y' hy'O (fun i hi => by rw [show i = 0 by omega]; exact h)
            · exact Or.inr ⟨0, hT.1, fun j hj => by omega, by rw [e0]; exact h⟩
          · rw [zr_ur, if_pos rfl]; exact q1 i hi
          · exact zo_tr hz1 (zo_ur (by simp))
        · intro row' q1 q2
          refine zb0' (ih (n + 1) row' (by omega) (by omega) (fun y hyO hy0 => ?_))
          by_cases e : y 0 = n
          · exact q2 y hyO (fun i hi => by rw [show i = 0 by omega]; exact e)
          · exact hno y hyO (by omega)
    have := key f 0 (M (30 :: q)) (by omega) (by omega) (fun y _ h => by omega)
    rw [zm_ur_self] at this
    exact this
