/-! CALLS: works, the search -/
theorem cg_Law {A B : Nat → Int} (h : ∀ j, j < 205 → B j = A j) (h2 : ∀ i : Nat, (i : Int) < A 204 → B (205 + i) = A (205 + i)) {lw : Nat} {ty : Bool} (hl : lw < 2) (k : zLawOK A lw ty) : zLawOK B lw ty := by
  unfold zLawOK at k ⊢
  rw [h (7 + lw) (by omega), h (9 + lw) (by omega), h (11 + lw) (by omega), h 204 (by decide)]
  rcases k with k | ⟨k1, fr, many, k2, k3, k4, k5, k6, k7⟩
  · exact Or.inl k
  · refine Or.inr ⟨k1, fr, many, k2, k3, k4, k5, k6, ?_⟩
    rw [← k7]
    exact zty_ext many fr [] (fun j h1 h3 => h2 j (by omega))
theorem cg_A {A B : Nat → Int} (h : ∀ j, j < 205 → B j = A j) (h2 : ∀ i : Nat, (i : Int) < A 204 → B (205 + i) = A (205 + i)) (hA : wA A) : wA B := by
  obtain ⟨a1, a2, a3, a4, a5, a6, a7, a8, a9, a10⟩ := hA
  unfold wA
  rw [h 0 (by decide), h 1 (by decide), h 2 (by decide), h 3 (by decide), h 4 (by decide), h 5 (by decide), h 6 (by decide), h 61 (by decide), h 62 (by decide), h 204 (by decide)]
  refine ⟨a1, a2, a3, fun j hj => ?_, a5, a6, a7, a8, cg_Law h h2 (by decide) a9, cg_Law h h2 (by decide) a10⟩
  rw [h (13 + j) (by omega), h (25 + j) (by omega), h (37 + j) (by omega), h (49 + j) (by omega)]
  exact a4 j hj
theorem cg_P {A B : Nat → Int} (h : ∀ j, j < 205 → B j = A j) (h2 : ∀ i : Nat, (i : Int) < A 204 → B (205 + i) = A (205 + i)) (hA : wA A) {m : aj_M} {p : List Nat} (k : wP m p A) : wP m p B := by
  have h6 := hA.2.2.1
  obtain ⟨k1, k2, k3, k4, ⟨H, e1, e2, e3⟩, k6, k7⟩ := k
  unfold wP
  rw [h 0 (by decide), h 1 (by decide), h 2 (by decide), h 3 (by decide), h 4 (by decide), h 5 (by decide), h 6 (by decide)]
  refine ⟨k1, k2, k3, k4, ⟨H, e1, e2, fun j hj => ?_⟩, fun j hj => ?_, ?_⟩
  · rw [h (37 + j) (by omega)]
    exact e3 j hj
  · rw [h (13 + j) (by omega), h (25 + j) (by omega)]
    exact k6 j hj
  · unfold wPl at k7 ⊢
    rw [h 204 (by decide), h 7 (by decide), h 8 (by decide), h 9 (by decide), h 10 (by decide), h 11 (by decide), h 12 (by decide)]
    refine ⟨k7.1, fun i hi => ?_, k7.2.2⟩
    rw [h2 i hi]
    exact k7.2.1 i hi
section CLW
variable {f : Nat} {m : aj_M} {X : aj_M → Prop}
theorem cl_works (hf : 10000 ≤ f) (H : gInv m) (hX : ∀ m', gInv m' → X m') {v : Int} (hv : rI v) (G : Int → aj_M → Prop) (hG : ∀ z m1, wX12_works f (fun z2 m2 => rI z ∧ rI z2 ∧ (z = z2 → X m2) ∧ (¬ z = z2 → False)) [1] v m1 → G z m1) : wX11_works f G [0] v m := by
  obtain ⟨A, S, N, V, I, T, n, fk, fa, P, C, R⟩ := H
  have hn := P.2.2.2.2.2.1
  by_cases c : 0 ≤ v ∧ v ≤ n
  · obtain ⟨k, rfl⟩ : ∃ k : Nat, v = k := ⟨v.toNat, by omega⟩
    obtain ⟨r, g1, g2, g3⟩ := zWorks (f := f) (T := T) (n := k) ⟨by omega, P.2.2.2.2.1, by omega⟩
    rcases r with ⟨cs, Q⟩ | ⟨x, a⟩
    · obtain ⟨b1, b2⟩ := g1
      have hA1 := lI_A b2 (by omega) (by omega)
      refine g2 G m n C.1.2.2.2.1 (by omega) hn (fun m1 z z0 z12 zt wp w10 ws z5 => hG _ _ ?_)
      have R1 := RI_k R (kR_zo z (by decide))
      refine g3 _ m1 n R1.2.2.2.1 (by omega) hn (fun m2 y ys y1 y2 y3 y4 => q2 rfl ?_ (hX _ ?_))
      · have := b2.2.2.2.2.2.2.2.2.2
        exact ⟨by omega, by omega⟩
      · have e1 : ∀ j, j < 205 → m2 [1, 1] j = BB Q cs j := fun j hj => by
          by_cases x : j < 204
          · rw [y1 j x, BB_lo x]
          · have : j = 204 := by omega
            subst this
            rw [y2, BB_204]
        have e2 : ∀ i : Nat, (i : Int) < BB Q cs 204 → m2 [1, 1] (205 + i) = BB Q cs (205 + i) := fun i hi => by
          rw [BB_204] at hi
          rw [y3 i (by omega), BB_cd]
        have e3 : ∀ j, 1105 ≤ j → m2 [1, 1] j = A j := fun j hj => by rw [y4 j hj, R1.1]
        have hA2 := cg_A e1 e2 hA1
        have h63 : m2 [1, 1] 63 = 0 := by rw [y1 63 (by decide)]; exact b2.2.2.2.2.2.2.2.1
        have hH : zHA (m2 [1, 1]) := ⟨by omega, fun i hi => by omega⟩
        have hI : ∀ i, zImg (m2 [1, 1]) i = zImg A i := fun i => zImg_e e3
        obtain ⟨p1, p2, p3, p4, p5, p6, p7, p8⟩ := P
        have C1 : CI m1 (m2 [1, 1]) S N V I T 0 0 (-1) := cw_CI C (fun p hp => z p (by
            have q : ∀ p ∈ ((List.range 2).flatMap (fun i => zIl i) ++ ((List.range 4).flatMap (fun t => [[t, 7, 0], [0, t, 7, 0]]) ++ [[10, 0], [6, 10, 0], [12, 9, 0], [3, 8, 0], [12, 3, 8, 0]])), p ∉ wkL := by decide
            exact q p hp)) (fun i hi e => ⟨fun j hj => congrFun (hI i) j, p3 i hi e⟩) z12 (cg_P e1 e2 hA1 wp) w10 (wS_ext (fun j hj => e1 j (by omega)) hA1.2.2.1.2 ws) (by
            obtain ⟨nx, n1, n2, n3, n4⟩ := C.1.1
            exact ⟨nx, n1, z5.2.trans n2, by rw [h63]; exact z5.1, fun i hi => by omega⟩) ⟨by rw [zt.1]; rfl, fun j hj => absurd hj (by omega)⟩ zt.2.1 zt.2.2
        refine ⟨m2 [1, 1], S, N, V, I, T, 0, 0, -1, ⟨hA2, hH, fun i hi e => by rw [hI i]; exact p3 i hi e, p4, p5, by omega, by decide, by decide⟩, CI_off C1 (kC_zo y (by decide)), ?_⟩
        obtain ⟨r1, r2, r3, r4, r5, r6⟩ := R1
        refine ⟨rfl, ?_, ?_, ⟨ys.1, fun j hj => absurd hj (by omega)⟩, ys.2.1, ys.2.2⟩
        · unfold zIR
          rw [y [2, 1] (by decide)]
          exact r2
        · unfold tR
          rw [y [44, 1] (by decide), y [45, 1] (by decide), y [46, 1] (by decide)]
          exact r3
    · obtain ⟨b1, b2⟩ := g1
      refine g2 G m n C.1.2.2.2.1 (by omega) hn (fun m1 z zt => hG _ _ ?_)
      have R1 := RI_k R (kR_zo z (by decide))
      refine g3 _ m1 n R1.2.2.2.1 (by omega) hn (fun m2 y ys => q2 rfl ⟨by omega, by omega⟩ (hX _ ?_))
      obtain ⟨p1, p2, p3, p4, p5, p6, p7, p8⟩ := P
      obtain ⟨⟨c1, c2, c3, c4, c5, c6⟩, ⟨c7, c7'⟩, c8, c9, c10, c11⟩ := C
      have of : ∀ l : List (List Nat), (∀ p ∈ l, p ∉ lCl) → ∀ p, p ∈ l → m1 p = m p := fun l hl p hp => z p (hl p hp)
      have o1 := of [[11, 1, 0], [1, 0], [2, 0], [0, 2, 0], [10, 0], [6, 10, 0], [12, 9, 0], [0, 7, 0], [1, 7, 0], [2, 7, 0], [3, 7, 0], [0, 0, 7, 0], [0, 1, 7, 0], [0, 2, 7, 0], [0, 3, 7, 0]] (by decide)
      have C1 : CI m1 A S N V I T 0 x a := by
        refine ⟨⟨zHC_off c1 (of _ (by decide)), zIC_off c2 (fun i hi => ?_), tC_off4 c3 (t4 ⟨o1 _ (by decide), o1 _ (by decide)⟩ ⟨o1 _ (by decide), o1 _ (by decide)⟩ ⟨o1 _ (by decide), o1 _ (by decide)⟩ ⟨o1 _ (by decide), o1 _ (by decide)⟩), ⟨by rw [zt.1]; rfl, fun j hj => absurd hj (by omega)⟩, zt.2.1, zt.2.2⟩, ⟨wP_zo c7 (of _ (by decide)), wK_off c7' (o1 _ (by decide)) (o1 _ (by decide))⟩, wS_off c8 (o1 _ (by decide)) (o1 _ (by decide)), cHu_off c9 (o1 _ (by decide)) (o1 _ (by decide)), cNet_off c10 (of _ (by decide)), by rw [o1 [12, 9, 0] (by decide)]; exact c11⟩
        have : i = 0 ∨ i = 1 := by omega
        rcases this with rfl | rfl
        · exact of _ (by decide)
        · exact of _ (by decide)
      refine ⟨A, S, N, V, I, T, 0, x, a, ⟨p1, p2, p3, p4, p5, by omega, ⟨by omega, by omega⟩, ⟨by omega, by omega⟩⟩, CI_off C1 (kC_zo y (by decide)), ?_⟩
      obtain ⟨r1, r2, r3, r4, r5, r6⟩ := R1
      refine ⟨by rw [y _ (by decide)]; exact r1, ?_, ?_, ⟨ys.1, fun j hj => absurd hj (by omega)⟩, ys.2.1, ys.2.2⟩
      · unfold zIR
        rw [y [2, 1] (by decide)]
        exact r2
      · unfold tR
        rw [y [44, 1] (by decide), y [45, 1] (by decide), y [46, 1] (by decide)]
        exact r3
  · have e1 := C.1.2.2.2.1.1
    have rr : wX12_works f (fun z2 m2 => rI (-3) ∧ rI z2 ∧ ((-3) = z2 → X m2) ∧ (¬ (-3) = z2 → False)) [1] v m := by
      rintro _ rfl
      have e5 : aj_u m [1] 0 0 [1] 5 = n := by rw [zu_tup, tup_o (by decide)]; exact R.2.2.2.1.1
      rw [e5]
      refine ⟨hv, ⟨by omega, by omega⟩, pX12_within ⟨by omega, by omega⟩ (by decide) ⟨by omega, by omega⟩ ?_⟩
      rw [if_neg c]
      exact zc0 (q2 rfl (by decide) (hX _ (inv_q P C kC_rZ (RI_rZ R))))
    exact ⟨hv, fun _ => hG _ _ rr, fun d => ⟨hv, by rw [e1]; exact ⟨by omega, by omega⟩, fun x => by rw [e1] at x; omega, fun _ => hG _ _ rr⟩⟩
theorem CI_hu {m1 : aj_M} {A S N : Nat → Int} {V : Nat → Nat → Int} {I : Nat → Bool} {T : Nat → Int} {n : Nat} {fk fa : Int} (C : CI m A S N V I T n fk fa) (z : ∀ r, r ∉ ([[10, 0], [6, 10, 0], [7, 10, 0]] : List (List Nat)) → m1 r = m r) (h : cHu m1) : CI m1 A S N V I T n fk fa := by
  obtain ⟨c1, c2, c3, c4, c5, c6⟩ := C
  exact ⟨cRest_off c1 (fun p hp => z p (by
    have q : ∀ p ∈ cRl, p ∉ ([[10, 0], [6, 10, 0], [7, 10, 0]] : List (List Nat)) := by decide
    exact q p hp)), ⟨wP_zo c2.1 (fun r hr => z r (by
    have q : ∀ p ∈ zcpl [1, 0], p ∉ ([[10, 0], [6, 10, 0], [7, 10, 0]] : List (List Nat)) := by decide
    exact q r hr)), wK_off c2.2 (z _ (by decide)) (z _ (by decide))⟩, wS_off c3 (z _ (by decide)) (z _ (by decide)), h, cNet_off c5 (fun p hp => z p (by
    have q : ∀ p ∈ cNl, p ∉ ([[10, 0], [6, 10, 0], [7, 10, 0]] : List (List Nat)) := by decide
    exact q p hp)), by rw [z [12, 9, 0] (by decide)]; exact c6⟩
theorem pX12_isSearch {Φ : Int → aj_M → Prop} {d g n : Int} (hd : rI d) (hg : rI g) (hn : rI n) (h1 : 2 ≤ d ∧ d ≤ 4 ∧ 3 ≤ g ∧ g ≤ 8 ∧ 1 ≤ n ∧ n ≤ 14 → Φ 1 m) (h0 : ¬ (2 ≤ d ∧ d ≤ 4 ∧ 3 ≤ g ∧ g ≤ 8 ∧ 1 ≤ n ∧ n ≤ 14) → Φ 0 m) : wX12_isSearch f Φ d g n m := by
  refine ⟨hd, pW12_within (rL_rI hd) (by decide) (by decide) (fun a b => zb1 ⟨hg, pW12_within (rL_rI hg) (by decide) (by decide) (fun c e => zb1 ⟨hn, pW12_within (rL_rI hn) (by decide) (by decide) (fun i j => zb1 (h1 ⟨a, b, c, e, i, j⟩)) (fun i => zb0 (h0 (fun x => i ⟨x.2.2.2.2.1, x.2.2.2.2.2⟩)))⟩) (fun c => zb0 (h0 (fun x => c ⟨x.2.2.1, x.2.2.2.1⟩)))⟩) (fun a => zb0 (h0 (fun x => a ⟨x.1, x.2.1⟩)))⟩
/-- the reference's state behind a search -/
theorem se_inv {m1 m2 : aj_M} {A S N : Nat → Int} {V : Nat → Nat → Int} {I : Nat → Bool} {T : Nat → Int} {n : Nat} {fk fa : Int} (P : PI A S N V I T n fk fa) (C : CI m1 A S N V I T n fk fa) (R : RI m1 A S N V I T n fk fa) (y : ∀ r, r ∉ ([[1], [34, 1], [35, 1]] : List (List Nat)) → m2 r = rZ m1 r) (y0 : ∀ j, j < 36 → m2 [1] j = rZ m1 [1] j) : gInv m2 := by
  refine inv_q P C (kC_t kC_rZ (kC_zo (l := [[1], [34, 1], [35, 1]]) y (by decide))) (RI_off (RI_rZ R) (fun p hp => y p (by
    have q : ∀ p ∈ rAl, p ∉ ([[1], [34, 1], [35, 1]] : List (List Nat)) := by decide
    exact q p hp)) (y0 5 (by decide)) (y0 13 (by decide)) (y0 14 (by decide)))
theorem cl_search (hf : 10000 ≤ f) (H : gInv m) (hX : ∀ m', gInv m' → X m') {d g k w : Int} (hd : rI d) (hg : rI g) (hk : rI k) (hw : rI w) (G : Int → aj_M → Prop) (hG : ∀ z m1, wX12_search f (fun z2 m2 => rI z ∧ rI z2 ∧ (z = z2 → X m2) ∧ (¬ z = z2 → False)) [1] d g k w m1 → G z m1) : wX11_search f G [0] d g k w m := by
  obtain ⟨A, S, N, V, I, T, n, fk, fa, P, C, R⟩ := H
  have fin := hX _ (inv_q P C kC_rZ (RI_rZ R))
  have b2 : ¬ (0 ≤ w ∧ w ≤ 2) → G (-2) m := fun c => hG _ _ (by
    rintro _ rfl
    exact ⟨hw, pW12_within (rL_rI hw) (by decide) (by decide) (fun a b => absurd ⟨a, b⟩ c) (fun _ => zc0 (q2 rfl (by decide) fin))⟩)
  refine ⟨hw, fun c => b2 (by omega), fun c => ⟨hw, fun c1 => ?_, fun c1 => b2 (by omega)⟩⟩
  refine pX2_canBe hd hg hk (fun y => zc1 ?_) (fun y => zc0 (hG _ _ ?_))
  · obtain ⟨d, rfl⟩ : ∃ d' : Nat, d = d' := ⟨d.toNat, by omega⟩
    obtain ⟨g, rfl⟩ : ∃ d' : Nat, g = d' := ⟨g.toNat, by omega⟩
    obtain ⟨k, rfl⟩ : ∃ d' : Nat, k = d' := ⟨k.toNat, by omega⟩
    have hb := zSe2_b (dg := d) (g := g) (n := k) (by omega) (by omega)
    refine pX2_run ⟨by omega, by omega⟩ ⟨by omega, by omega⟩ ⟨by omega, by omega⟩ C.2.2.2.1.1 C.2.2.2.1.2 (by omega) (fun m1 z h1 h2 h3 h4 h5 h6 => ?_)
    have C1 := CI_hu C z ⟨h1, h2⟩
    have R1 := RI_k R (kR_zo z (by decide))
    have go : ∀ z1 : Int, z1 = (if w = 0 then ((zSe2 d g k).1 : Int) else if w = 1 then ((zSe2 d g k).2.2.1 : Int) else ((zSe2 d g k).2.2.2 : Int)) → G z1 m1 := by
      intro z1 e1
      refine hG _ _ ?_
      rintro _ rfl
      refine ⟨hw, pW12_within (rL_rI hw) (by decide) (by decide) (fun _ _ => zc1 (pX12_isSearch hd hg hk (fun _ => zc1 ?_) (fun x => absurd y x))) (fun x => absurd ⟨by omega, by omega⟩ x)⟩
      refine pX12_goesSearch (by omega) ⟨by omega, by omega⟩ (by omega) (by omega) (fun m2 y1 y0 e39 e40 e34 => ?_)
      have fin2 := hX _ (se_inv P C1 R1 y1 y0)
      have r1 : rI z1 := by
        rw [e1]
        split
        · exact ⟨by omega, by omega⟩
        · split
          · exact ⟨by omega, by omega⟩
          · exact ⟨by omega, by omega⟩
      refine ⟨hw, fun a => ⟨hw, fun b => ?_, fun b => ?_⟩, fun a => ?_⟩
      · rw [e40]
        exact q2 (by rw [e1, if_neg a, if_neg b]) r1 fin2
      · rw [e39]
        exact q2 (by rw [e1, if_neg a, if_pos b]) r1 fin2
      · exact q2 (by rw [e1, if_pos a]) r1 fin2
    refine ⟨hw, fun a => ?_, fun a => ?_, fun a => ?_⟩
    · exact go _ (by rw [h5, if_neg a.1, if_neg a.2])
    · exact go _ (by rw [h3, if_pos a])
    · exact go _ (by rw [h4, if_neg (by omega), if_pos a])
  · rintro _ rfl
    exact ⟨hw, pW12_within (rL_rI hw) (by decide) (by decide) (fun _ _ => zc1 (pX12_isSearch hd hg hk (fun x => absurd x y) (fun _ => zc0 (q2 rfl (by decide) fin)))) (fun x => absurd ⟨by omega, by omega⟩ x)⟩
theorem cl_found (hf : 10000 ≤ f) (H : gInv m) (hX : ∀ m', gInv m' → X m') {d g k a b : Int} (hd : rI d) (hg : rI g) (hk : rI k) (ha : rI a) (hb : rI b) (G : Int → aj_M → Prop) (hG : ∀ z m1, wX12_found f (fun z2 m2 => rI z ∧ rI z2 ∧ (z = z2 → X m2) ∧ (¬ z = z2 → False)) [1] d g k a b m1 → G z m1) : wX11_found f G [0] d g k a b m := by
  obtain ⟨A, S, N, V, I, T, n, fk, fa, P, C, R⟩ := H
  have fin := hX _ (inv_q P C kC_rZ (RI_rZ R))
  have b3 : ¬ ((2 ≤ d ∧ d ≤ 4 ∧ 3 ≤ g ∧ g ≤ 8 ∧ 1 ≤ k ∧ k ≤ 14) ∧ (0 ≤ a ∧ a < k) ∧ (0 ≤ b ∧ b < k)) → G (-3) m := fun c => hG _ _ (by
    rintro _ rfl
    have e3 := q2 (N := X) (z := -3) (z2 := -3) rfl (by decide) fin
    refine pX12_isSearch hd hg hk (fun x => zb1 ⟨ha, ⟨by omega, by omega⟩, pW12_within (rL_rI ha) (by decide) ⟨by omega, by omega⟩ (fun a1 a2 => zb1 ⟨hb, ⟨by omega, by omega⟩, pW12_within (rL_rI hb) (by decide) ⟨by omega, by omega⟩ (fun b1 b2 => absurd ⟨x, ⟨a1, by omega⟩, ⟨b1, by omega⟩⟩ c) (fun _ => zc0 e3)⟩) (fun _ => zb0 e3)⟩) (fun _ => zb0 e3))
  refine pX2_canBe hd hg hk (fun y => zb1 ⟨ha, fun c => b3 (by omega), fun c => ⟨ha, hk, fun c1 => b3 (by omega), fun c1 => ⟨hb, fun c2 => b3 (by omega), fun c2 => ⟨hb, hk, fun c3 => ?_, fun c3 => b3 (by omega)⟩⟩⟩⟩) (fun y => zb0 (b3 (fun x => y x.1)))
  obtain ⟨d, rfl⟩ : ∃ d' : Nat, d = d' := ⟨d.toNat, by omega⟩
  obtain ⟨g, rfl⟩ : ∃ d' : Nat, g = d' := ⟨g.toNat, by omega⟩
  obtain ⟨k, rfl⟩ : ∃ d' : Nat, k = d' := ⟨k.toNat, by omega⟩
  obtain ⟨a, rfl⟩ : ∃ d' : Nat, a = d' := ⟨a.toNat, by omega⟩
  obtain ⟨b, rfl⟩ : ∃ d' : Nat, b = d' := ⟨b.toNat, by omega⟩
  have hbd := zSe2_b (dg := d) (g := g) (n := k) (by omega) (by omega)
  have hav := hbd.2.2.2 a (by omega)
  refine pX2_run ⟨by omega, by omega⟩ ⟨by omega, by omega⟩ ⟨by omega, by omega⟩ C.2.2.2.1.1 C.2.2.2.1.2 (by omega) (fun m1 z h1 h2 h3 h4 h5 h6 => ?_)
  have C1 := CI_hu C z ⟨h1, h2⟩
  have R1 := RI_k R (kR_zo z (by decide))
  have go : ∀ z1 : Int, z1 = (if (zSe2 d g k).1 = 1 then (if ((zSe2 d g k).2.1 a).testBit b then (1 : Int) else 0) else -1) → G z1 m1 := by
    intro z1 e1
    refine hG _ _ ?_
    rintro _ rfl
    refine pX12_isSearch hd hg hk (fun _ => zb1 ⟨ha, ⟨by omega, by omega⟩, pW12_within (rL_rI ha) (by decide) ⟨by omega, by omega⟩ (fun _ _ => zb1 ⟨hb, ⟨by omega, by omega⟩, pW12_within (rL_rI hb) (by decide) ⟨by omega, by omega⟩ (fun _ _ => zc1 ?_) (fun x => absurd ⟨by omega, by omega⟩ x)⟩) (fun x => absurd ⟨by omega, by omega⟩ x)⟩) (fun x => absurd y x)
    refine pX12_goesSearch (by omega) ⟨by omega, by omega⟩ (by omega) (by omega) (fun m2 y1 y0 e39 e40 e34 => ?_)
    have fin2 := hX _ (se_inv P C1 R1 y1 y0)
    have r1 : rI z1 := by
      rw [e1]
      split
      · split <;> decide
      · decide
    refine ⟨⟨by omega, by omega⟩, fun c => ⟨⟨by omega, by omega⟩, ?_⟩, fun c => q2 (by rw [e1, if_neg (by omega)]) r1 fin2⟩
    rw [Int.toNat_natCast, e34 a (by omega)]
    rw [if_pos (by omega)] at e1
    refine ⟨⟨by omega, by omega⟩, pX12_isIn (by omega) (by omega) (fun t => zb1 ?_) (fun t => zb0 ?_)⟩
    · exact q2 (by rw [e1, if_pos t]) r1 fin2
    · exact q2 (by rw [e1, t]; rfl) r1 fin2
  rw [h3]
  refine ⟨⟨by omega, by omega⟩, fun c => ⟨⟨by omega, by omega⟩, ?_⟩, fun c => go _ (by rw [if_neg (by omega)])⟩
  rw [Int.toNat_natCast, h6 a (by omega), zi_bit (by omega) (by omega)]
  have c' : (zSe2 d g k).1 = 1 := by omega
  exact go _ (by rw [if_pos c'])
end CLW
