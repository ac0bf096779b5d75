/-! QUERIES: the first ring into a tray; what weighing answers -/
theorem tTr_n {s x : Int} (hx : 0 ≤ x ∧ x < 60) : tTr s x = x := by
  have h := co_dec (N := 60) (P := fun i => aj_w (aj_b (i : Int)) = i ∧ aj_w (aj_sh (i : Int)) = i ∧ aj_w (i : Int) = i) (by decide +kernel) (i := x.toNat) (by omega)
  have e : ((x.toNat : Nat) : Int) = x := by omega
  rw [e] at h
  unfold tTr
  split
  · exact h.1
  · split
    · exact h.2.1
    · split
      · exact h.2.2
      · rfl
theorem zRg_row {N L : Nat} {a b : Nat → Nat} {len : Int} {row : Nat → Int} (hN : N ≤ 60) (h : zRg N L a b len row) : len = 0 ∨ ∃ g : Nat, len = g ∧ g ≤ 60 ∧ ∀ i, i < g → 0 ≤ row i ∧ row i < 60 := by
  rcases h with ⟨h1, h2⟩ | ⟨g, x, h1, h2, ⟨r, h3⟩, h4, h5, h6⟩
  · exact Or.inl h1
  · refine Or.inr ⟨g, h1, h2, fun i hi => ?_⟩
    have hx : x i < N := by
      rcases Nat.eq_zero_or_pos i with e0 | e0
      · rw [e0]; exact h5.1.2.1
      · exact (h5.1.2.2.1 i e0 hi).2
    rw [h6 i hi]
    exact ⟨by omega, by omega⟩
theorem hX11_li {f : Nat} {Φ : Int → aj_M → Prop} {t c : Nat} {s : Int} {row : Nat → Int} {m0 : aj_M} (hs : 0 ≤ s ∧ s ≤ 3) (hrow : ∀ i, i < c → 0 ≤ row i ∧ row i < 60) (hc : c ≤ 40) (h0 : m0 [2, 8, 0] = row) (h1 : m0 [t, 7, 0] 1 = s) (h : ∀ m', zo [[0, t, 7, 0]] m0 m' → (∀ i, i < c → m' [0, t, 7, 0] i = row i) → (∀ i, c ≤ i → m' [0, t, 7, 0] i = m0 [0, t, 7, 0] i) → Φ c m') : ∀ (k i : Nat) (m : aj_M), i ≤ c → c - i < k → zo [[0, t, 7, 0]] m0 m → (∀ j, j < i → m [0, t, 7, 0] j = row j) → (∀ j, i ≤ j → m [0, t, 7, 0] j = m0 [0, t, 7, 0] j) → hX11_lists_56 f Φ k [8, 0] [t, 7, 0] c i m := by
  intro k
  induction k with
  | zero => intro i m h2 h3; omega
  | succ k ih =>
    intro i m h2 h3 z w1 w2
    have e0 : m [2, 8, 0] = row := by rw [z _ (by simp)]; exact h0
    have e1 : m [t, 7, 0] 1 = s := by rw [z _ (by simp)]; exact h1
    unfold hX11_lists_56
    refine ⟨⟨by omega, by omega⟩, ⟨by omega, by omega⟩, fun c' => ?_, fun c' => ⟨⟨by omega, by omega⟩, ?_⟩⟩
    · have e : i = c := by omega
      subst e
      exact h m z w1 w2
    · have hr := hrow i (by omega)
      rw [Int.toNat_natCast, e0]
      refine ⟨⟨by omega, by omega⟩, pX10_trimmed e1 hs ⟨⟨by omega, by omega⟩, ?_⟩⟩
      rintro _ rfl
      refine ih (i + 1) _ (by omega) (by omega) (fun p hp => ?_) (fun j hj => ?_) (fun j hj => ?_)
      · rw [zu_off (by simpa using hp)]
        exact z p hp
      · rw [zu_tup]
        by_cases x : j = i
        · rw [x, tup_s]; exact tTr_n hr
        · rw [tup_o x]; exact w1 j (by omega)
      · rw [zu_tup, tup_o (by omega)]
        exact w2 j (by omega)
theorem hX12_li {f : Nat} {Φ : Int → aj_M → Prop} {t c : Nat} {row : Nat → Int} {m0 : aj_M} (ht : t < 4) (hrow : ∀ i, i < c → 0 ≤ row i ∧ row i < 60) (hc : c ≤ 40) (h0 : ∀ i, i < c → m0 [30, 1] i = row i) (h : ∀ m', zo [[46, 1]] m0 m' → (∀ i, i < c → m' [46, 1] (40 * t + i) = row i) → (∀ j, ¬ (40 * t ≤ j ∧ j < 40 * t + c) → m' [46, 1] j = m0 [46, 1] j) → Φ c m') : ∀ (k i : Nat) (m : aj_M), i ≤ c → c - i < k → zo [[46, 1]] m0 m → (∀ j, j < i → m [46, 1] (40 * t + j) = row j) → (∀ j, ¬ (40 * t ≤ j ∧ j < 40 * t + i) → m [46, 1] j = m0 [46, 1] j) → hX12_lists_55 f Φ k [1] t c i m := by
  intro k
  induction k with
  | zero => intro i m h2 h3; omega
  | succ k ih =>
    intro i m h2 h3 z w1 w2
    have e0 : m [30, 1] = m0 [30, 1] := z _ (by simp)
    unfold hX12_lists_55
    refine ⟨⟨by omega, by omega⟩, ⟨by omega, by omega⟩, fun c' => ?_, fun c' => ⟨⟨by omega, by omega⟩, ?_⟩⟩
    · have e : i = c := by omega
      subst e
      exact h m z w1 w2
    · have hr := hrow i (by omega)
      have e2 : (40 * (t : Int) + (i : Int)).toNat = 40 * t + i := by omega
      rw [Int.toNat_natCast, e0, h0 i (by omega), e2]
      refine ⟨⟨by omega, by omega⟩, ⟨by omega, by omega⟩, ?_⟩
      rintro _ rfl
      refine ih (i + 1) _ (by omega) (by omega) (fun p hp => ?_) (fun j hj => ?_) (fun j hj => ?_)
      · rw [zu_off (by simpa using hp)]
        exact z p hp
      · rw [zu_tup]
        by_cases x : j = i
        · rw [x, tup_s]
        · rw [tup_o (by omega)]; exact w1 j (by omega)
      · rw [zu_tup, tup_o (by omega)]
        exact w2 j (by omega)
section QR3
variable {f : Nat} {m : aj_M} {X : aj_M → Prop} {A S N : Nat → Int} {V : Nat → Nat → Int} {I : Nat → Bool} {T : Nat → Int} {n : Nat} {fk fa : Int}
theorem tr_CI {m1 : aj_M} {V' : Nat → Nat → Int} {t : Nat} (ht : t < 4) (C : CI m A S N V I T n fk fa) (z : zo [[t, 7, 0], [0, t, 7, 0]] m m1) (hC : tC m1 S N V') : CI m1 A S N V' I T n fk fa := by
  obtain ⟨⟨c1, c2, c3, c4, c5, c6⟩, ⟨c7, c7'⟩, c8, c9, c10, c11⟩ := C
  have of : ∀ l : List (List Nat), (∀ p ∈ l, ∀ t < 4, p ∉ ([[t, 7, 0], [0, t, 7, 0]] : List (List Nat))) → ∀ p, p ∈ l → m1 p = m p := fun l hl p hp => z p (hl p hp t ht)
  have o1 := of [[0, 0], [0, 0, 0], [11, 1, 0], [1, 0], [2, 0], [0, 2, 0], [10, 0], [6, 10, 0], [12, 9, 0]] (by decide)
  refine ⟨⟨zHC_off c1 (of _ (by decide)), zIC_off c2 (fun i hi => ?_), hC, ⟨by rw [o1 _ (by decide)]; exact c4.1, by rw [o1 _ (by decide)]; exact c4.2⟩, by rw [o1 _ (by decide)]; exact c5, by rw [o1 _ (by decide)]; exact c6⟩, ⟨wP_zo c7 (of _ (by decide)), wK_off c7' (o1 _ (by decide)) (o1 _ (by decide))⟩, wS_off c8 (o1 _ (by decide)) (o1 _ (by decide)), cHu_off c9 (o1 _ (by decide)) (o1 _ (by decide)), cNet_off c10 (of _ (by decide)), by rw [o1 [12, 9, 0] (by decide)]; exact c11⟩
  have : i = 0 ∨ i = 1 := by omega
  rcases this with rfl | rfl
  · exact of _ (by decide)
  · exact of _ (by decide)
theorem cl_lists (hf : 10000 ≤ f) (H : gInv m) (hX : ∀ m', gInv m' → X m') {v : Int} (hv : rI v) (G : Int → aj_M → Prop) (hG : ∀ z m1, wX12_lists f (fun z2 m2 => rI z ∧ rI z2 ∧ (z = z2 → X m2) ∧ (¬ z = z2 → False)) [1] v m1 → G z m1) : wX11_lists f G [0] v m := by
  obtain ⟨A, S, N, V, I, T, n, fk, fa, P, C, R⟩ := H
  have hNb := (zNn_b P.1).2.2
  refine pX11_trayCode P.2.2.2.1 C.1.2.2.1 hv ⟨tA_r, fun c => ?_, fun c => hG _ _ ?_⟩
  · obtain ⟨t, rfl, ht, hn⟩ := tA_0 c
    have hb := tO_b P.2.2.2.1 ht
    have hs := tO_s P.2.2.2.1 ht hn
    refine pCur hf P C (fun m1 C1 k1 cu => pFst hf C1 cu (fun m2 C2 k2 hr => ?_))
    have R2 := RI_k (RI_k R k1) k2
    rw [Int.toNat_natCast]
    have hrw := zRg_row hNb hr
    have hl : 0 ≤ m2 [8, 0] 1 ∧ m2 [8, 0] 1 ≤ 60 := by
      rcases hrw with h | ⟨g, h1, h2, _⟩
      · omega
      · omega
    have t2 : m2 [t, 7, 0] 2 = N t := (C2.1.2.2.1 t ht).1
    have t1 := ((C2.1.2.2.1 t ht).2 hn).1
    refine ⟨⟨by omega, by omega⟩, fun d => ⟨⟨by omega, by omega⟩, by rw [t2]; exact ⟨by omega, by omega⟩, ⟨by omega, by omega⟩, ?_⟩, fun d => hG _ _ ?_⟩
    · obtain ⟨g, eg, hg, hrow⟩ := hrw.resolve_left d
      rw [t2, eg]
      obtain ⟨cc, ec⟩ : ∃ cc : Nat, cc = min (N t).toNat g := ⟨_, rfl⟩
      have em : min (N t) (g : Int) = cc := by omega
      have hcN : (cc : Int) ≤ N t := by omega
      have hcg : cc ≤ g := by omega
      rw [em]
      refine hX11_li (s := S t) (row := m2 [2, 8, 0]) hs.1 (fun i hi => hrow i (by omega)) (by omega) rfl t1 (fun m3 z3 w1 w2 => hG _ _ ?_) f 0 m2 (by omega) (by omega) (fun p _ => rfl) (fun j hj => absurd hj (by omega)) (fun j _ => rfl)
      have z3' : zo [[t, 7, 0], [0, t, 7, 0]] m2 m3 := zo_m z3 (by simp)
      have R3 := RI_k R2 (kR_t7 ht z3')
      have hO' : tO S N (tuv V t (fun i => if i < cc then m2 [2, 8, 0] i else V t i)) := by
        have := tO_up (t := t) (s := S t) (n := N t) (R := fun i => if i < cc then m2 [2, 8, 0] i else V t i) P.2.2.2.1 hs.1 ⟨hn, hb.2⟩ (fun q hq => by
          by_cases x : q < cc
          · show rL (if q < cc then _ else _)
            rw [if_pos x]
            have := hrow q (by omega)
            exact ⟨by omega, by omega⟩
          · show rL (if q < cc then _ else _)
            rw [if_neg x]
            exact hs.2 q hq)
        rwa [tup_id, tup_id] at this
      have hC' : tC m3 S N (tuv V t (fun i => if i < cc then m2 [2, 8, 0] i else V t i)) := by
        have := tC_up (t := t) (s := S t) (n := N t) (R := fun i => if i < cc then m2 [2, 8, 0] i else V t i) C2.1.2.2.1 z3' (by rw [z3 _ (by simp)]; exact t1) (by rw [z3 _ (by simp)]; exact t2) (fun i hi => by
          by_cases x : i < cc
          · rw [w1 i x]; exact (if_pos x).symm
          · rw [w2 i (by omega), ((C2.1.2.2.1 t ht).2 hn).2 i hi]; exact (if_neg x).symm)
        rwa [tup_id, tup_id] at this
      have C3 := tr_CI ht C2 z3' hC'
      rintro _ rfl
      refine pX12_noTray P.2.2.2.1 (RI_rZ R3).2.2.1 hv ⟨tA_r, fun _ => ?_, fun x => absurd c x⟩
      refine pFstR hf P R3 rNk_0 (fun z m4 k4 hz => ?_)
      have R4 : RI m4 A S N V I T n fk fa := RI_off R3 (fun p hp => k4.1 p (by
        have q : ∀ p ∈ rAl, p ∉ rNl := by decide
        exact q p hp)) (k4.2 5 (by decide) (by decide) (by decide)) (k4.2 13 (by decide) (by decide) (by decide)) (k4.2 14 (by decide) (by decide) (by decide))
      obtain ⟨u1, u2, u3⟩ := (R4.2.2.1 t ht).2 hn
      rcases ring_eq hNb hr hz with ⟨e1, e2⟩ | ⟨g', e1, e2, e3, e4, e5⟩
      · exact absurd e1 d
      · have eg' : g' = g := by omega
        subst eg'
        have go : hX12_lists_55 f (fun z2 m2 => rI (cc : Int) ∧ rI z2 ∧ ((cc : Int) = z2 → X m2) ∧ (¬ (cc : Int) = z2 → False)) f [1] t cc ((0 : Nat) : Int) m4 := by
          refine hX12_li (row := m2 [2, 8, 0]) ht (fun i hi => hrow i (by omega)) (by omega) (fun i hi => (e5 i (by omega)).1.symm) (fun m5 z5 x1 x2 => q2 rfl ⟨by omega, by omega⟩ (hX _ ?_)) f 0 m4 (by omega) (by omega) (fun p _ => rfl) (fun j hj => absurd hj (by omega)) (fun j _ => rfl)
          obtain ⟨p1, p2, p3, p4, p5, p6, p7, p8⟩ := P
          refine ⟨A, S, N, _, I, T, n, fk, fa, ⟨p1, p2, p3, hO', p5, p6, p7, p8⟩, CI_off C3 (kC_t (kC_zo k4.1 (by decide)) (kC_zo z5 (by decide))), ?_⟩
          obtain ⟨r1, r2, r3, r4, r5, r6⟩ := R4
          refine ⟨by rw [z5 _ (by decide)]; exact r1, ?_, ?_, ?_, by rw [z5 _ (by decide)]; exact r5, by rw [z5 _ (by decide)]; exact r6⟩
          · unfold zIR
            rw [z5 [2, 1] (by decide)]
            exact r2
          · have := tR_up (m' := m5) (t := t) (s := S t) (n := N t) (R := fun i => if i < cc then m2 [2, 8, 0] i else V t i) r3 p4 ht hn (by rw [z5 _ (by decide), ← u1, tup_id]) (by rw [z5 _ (by decide), ← u2, tup_id]) (fun i hi => by
              by_cases x : i < cc
              · rw [x1 i x]; exact (if_pos x).symm
              · rw [x2 _ (by omega), u3 i hi]; exact (if_neg x).symm) (fun j hj => x2 j (by omega))
            rwa [tup_id, tup_id] at this
          · unfold zTpR
            rw [z5 [1] (by decide), z5 [3, 1] (by decide)]
            exact r4
        rw [Int.toNat_natCast, u2]
        refine ⟨⟨by omega, by omega⟩, fun _ => ⟨⟨by omega, by omega⟩, ⟨by omega, by omega⟩, ⟨by omega, by omega⟩, fun x => ⟨⟨by omega, by omega⟩, ?_⟩, fun x => ?_⟩, fun x => by omega⟩
        · have : N t = cc := by omega
          rw [this]
          exact go
        · have : z = cc := by omega
          rw [this]
          exact go
    · rintro _ rfl
      refine pX12_noTray P.2.2.2.1 (RI_rZ R2).2.2.1 hv ⟨tA_r, fun _ => ?_, fun x => absurd c x⟩
      refine pFstR hf P R2 rNk_0 (fun z m4 k4 hz => ?_)
      rcases ring_eq hNb hr hz with ⟨e1, e2⟩ | ⟨g', e1, e2, e3, e4, e5⟩
      · exact ⟨⟨by omega, by omega⟩, fun x => absurd e2 x, fun _ => q2 rfl (by decide) (hX _ (rn_inv P C2 R2 k4))⟩
      · omega
  · rintro _ rfl
    refine pX12_noTray P.2.2.2.1 (RI_rZ R).2.2.1 hv ⟨tA_r, fun x => absurd x c, fun _ => q2 rfl tA_r (hX _ (inv_q P C kC_rZ (RI_rZ R)))⟩
end QR3
theorem zWgi_b {A : Nat → Int} {b a : Nat} (ha : a < 12) {s : Int × Int} (hs : -1 ≤ s.1 ∧ s.1 ≤ 2000) : ∀ x, x ≤ 12 → -1 ≤ (zWgi A b a s x).1 ∧ (zWgi A b a s x).1 ≤ 2000
  | 0, _ => hs
  | x + 1, hx => by
    have ih := zWgi_b (b := b) (A := A) ha hs x (by omega)
    unfold zWgi zWgs
    split
    · show -1 ≤ 100 * (a : Int) + (x : Int) ∧ 100 * (a : Int) + (x : Int) ≤ 2000
      omega
    · exact ih
theorem zWgo_b {A : Nat → Int} {b : Nat} (h12 : (A 4).toNat ≤ 12) : ∀ a, a ≤ 12 → -1 ≤ (zWgo A b (-1, 11) a).1 ∧ (zWgo A b (-1, 11) a).1 ≤ 2000
  | 0, _ => ⟨by show (-1 : Int) ≤ -1; decide, by show (-1 : Int) ≤ 2000; decide⟩
  | a + 1, ha => zWgi_b (by omega) (zWgo_b h12 a (by omega)) _ h12
theorem tWe_r {A : Nat → Int} (hA : wA A) {b : Int} (hb : -6 ≤ b ∧ b < 1024) : rI (tWe A b) := by
  have h12 := gOK_n hA.1
  have h6 := hA.2.2.1
  unfold tWe
  split
  · have := zWgo_b (A := A) (b := b.toNat) (by omega) (A 6).toNat (by omega)
    have e : zWgc A b.toNat (A 6).toNat = zWgo A b.toNat (-1, 11) (A 6).toNat := rfl
    rw [e]
    exact ⟨by omega, by omega⟩
  · split
    · decide
    · exact ⟨by omega, by omega⟩
theorem we_r {v : Int} : ∀ A N : Nat → Int, ∀ V : Nat → Nat → Int, wA A → rI (tWe A (tTs A N V v)) := fun A N V hA => by
  have := tTs_b (A := A) (N := N) (V := V) (v := v)
  exact tWe_r hA ⟨by omega, by omega⟩
