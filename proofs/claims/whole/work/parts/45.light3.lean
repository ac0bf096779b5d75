/-! LIGHTEST WAYS: the reference -/
def zJb (N L : Nat) (a b : Nat → Nat) (x : Int) (l u v : Nat) : Prop := zJ N L a b l u v ∧ (l : Int) ≠ x
theorem zjw_Jb {N L : Nat} {a b : Nat → Nat} {w : Nat → Int} {inf x : Int} (hw : ∀ l, l < L → 1 ≤ w l ∧ w l ≤ 99) (hinf : 6100 < inf) (hN : N ≤ 60) : zjw N L (zJb N L a b x) w inf := ⟨fun l u v h => ⟨h.1.1, h.1.2.1, h.1.2.2.1, zJ_sym h.1, h.2⟩, fun l u v v' h h' => zJ_other h.1 h'.1, hw, hinf, hN⟩
theorem zDC_congr {N : Nat} {jn jn' : Nat → Nat → Nat → Prop} {w : Nat → Int} {inf : Int} {r : Nat} {C vi lb : Nat → Int} (h : ∀ l u v, jn l u v ↔ jn' l u v) (H : zDC N jn w inf r C vi lb) : zDC N jn' w inf r C vi lb := by
  refine ⟨H.1, H.2.1, fun v hv hvr hC => ?_, fun l u v hj => H.2.2.2 l u v ((h l u v).mpr hj)⟩
  obtain ⟨l, u, a1, a2⟩ := H.2.2.1 v hv hvr hC
  exact ⟨l, u, (h l u v).mp a1, a2⟩
def rD (m : aj_M) (q : List Nat) (C T : Nat → Int) : aj_M := aj_ur (aj_ur m (31 :: q) C) (32 :: q) T
theorem rD_off {m : aj_M} {q r : List Nat} {C T : Nat → Int} (h1 : r ≠ 31 :: q) (h2 : r ≠ 32 :: q) : rD m q C T r = m r := by simp [rD, zr_ur, h1, h2]
theorem rD_31 {m : aj_M} {q : List Nat} {C T : Nat → Int} : rD m q C T (31 :: q) = C := by simp [rD, zr_ur]
theorem rD_32 {m : aj_M} {q : List Nat} {C T : Nat → Int} : rD m q C T (32 :: q) = T := by simp [rD, zr_ur]
theorem rD_w31 {m : aj_M} {q : List Nat} {C T : Nat → Int} {j : Nat} {x : Int} : aj_u (rD m q C T) (31 :: q) j x = rD m q (st C j x) T := by simp [rD, zu_push]
theorem rD_w32 {m : aj_M} {q : List Nat} {C T : Nat → Int} {j : Nat} {x : Int} : aj_u (rD m q C T) (32 :: q) j x = rD m q C (st T j x) := by simp [rD, zu_push]
theorem rD_self {m : aj_M} {q : List Nat} : rD m q (m (31 :: q)) (m (32 :: q)) = m := by
  unfold rD
  rw [zm_ur_id (p := 32 :: q) (fun k => by simp [zr_ur]), zm_ur_self]
theorem rD_rD {m : aj_M} {q : List Nat} {C T C' T' : Nat → Int} : rD (rD m q C T) q C' T' = rD m q C' T' := by
  unfold rD
  rw [zm_ur_comm (p := 32 :: q) (q := 31 :: q) (by simp), zm_ur_ur, zm_ur_ur]
def zTs (N : Nat) (T : Nat → Int) (S : Nat → Bool) : Prop := ∀ v, v < N → T v = if S v then 1 else 0
theorem ll_r {f : Nat} {Φ : aj_M → Prop} {q : List Nat} {m : aj_M} {N L : Nat} {a b : Nat → Nat} {w : Nat → Int} {x : Int} (H : nR m q N L a b) (hw : ∀ l, l < L → 1 ≤ w l ∧ w l ≤ 99) (h20 : ∀ l, l < L → m (20 :: q) l = w l) (hx : rI x) {r : Nat} (hf : 300 ≤ f) (hK : ∀ C T V lb : Nat → Int, zDC N (zJb N L a b x) w 268435456 r C V lb → Φ (rD m q C T)) : ∀ (k n : Nat) (S : Nat → Bool) (C T V lb : Nat → Int), n ≤ N → N - n < k → zTs N T S → zDI N (zJb N L a b x) w 268435456 r n S C V lb → hX12_laysLight_43 f Φ k q x n (rD m q C T) := by
  have hN : N ≤ 60 := H.2.2.2.1
  have W := zjw_Jb (a := a) (b := b) (x := x) hw (show 6100 < (268435456 : Int) by decide) hN
  obtain ⟨g22, g23, gN1, gN, gL, hab, g2⟩ := H
  have r0 : ∀ C T : Nat → Int, rD m q C T q = m q := fun C T => rD_off (by simp) (by simp)
  have r18 : ∀ C T : Nat → Int, rD m q C T (18 :: q) = m (18 :: q) := fun C T => rD_off (by simp) (by simp)
  have r19 : ∀ C T : Nat → Int, rD m q C T (19 :: q) = m (19 :: q) := fun C T => rD_off (by simp) (by simp)
  have r20 : ∀ C T : Nat → Int, rD m q C T (20 :: q) = m (20 :: q) := fun C T => rD_off (by simp) (by simp)
  intro k
  induction k with
  | zero => intro n S C T V lb h1 h2; omega
  | succ k ih =>
    intro n S C T V lb h1 h2 hT HD
    have hCb : ∀ v, v < N → 0 ≤ C v ∧ C v ≤ 268435456 := fun v hv => zDI_C HD (by omega) (by decide) hv
    unfold hX12_laysLight_43
    rw [r0, g23]
    refine ⟨⟨by omega, by omega⟩, ⟨by omega, by omega⟩, fun c => hK C T V lb (zDI_end W HD (fun v hv _ => zcnt_all N (by rw [HD.2.2.1]; omega) v hv)), fun c => ?_⟩
    -- the least of those that aren't settled
    have scan : ∀ (k' i : Nat) (z : Int), i ≤ N → N - i < k' → ((z = -1 ∧ ∀ v, v < i → S v = true) ∨ (∃ u, u < i ∧ z = (u : Nat) ∧ S u = false ∧ ∀ v, v < i → S v = false → C u ≤ C v)) → hX12_laysLight_57 f Φ (fun q0 v2 v3 m => hX12_laysLight_43 f Φ k q0 v2 v3 m) k' q x n z i (rD m q C T) := by
      intro k'
      induction k' with
      | zero => intro i z a1 a2; omega
      | succ k' ih' =>
        intro i z a1 a2 a3
        unfold hX12_laysLight_57
        rw [r0, g23, rD_31, rD_32, Int.toNat_natCast]
        refine ⟨⟨by omega, by omega⟩, ⟨by omega, by omega⟩, fun c2 => ?_, fun c2 => ?_⟩
        · have ei : i = N := by omega
          subst ei
          rcases a3 with ⟨_, hall⟩ | ⟨u, hu, rfl, hSu, hmin⟩
          · have := zcnt_full (P := S) i hall
            have := HD.2.2.1
            omega
          · refine ⟨⟨by omega, by omega⟩, ?_⟩
            rintro _ rfl
            rw [rD_w32, rD_31, Int.toNat_natCast]
            have hCu := hCb u hu
            have hT' : zTs i (st T u 1) (fun v => S v || decide (v = u)) := by
              intro v hv
              by_cases e : v = u
              · subst e; rw [st_at]; simp
              · rw [st_ne e, hT v hv]; simp [e]
            refine ⟨⟨by omega, by omega⟩, ⟨by omega, by omega⟩, fun c3 => ?_, fun c3 => hK C _ V lb (zDI_end W HD (fun v hv hCv => ?_))⟩
            · -- its links
              have J0 := zDJ_pick W HD hu hSu (by omega) hmin
              have inner : ∀ (k2 l : Nat) (C V lb : Nat → Int), l ≤ L → L - l < k2 → zDJ i (zJb i L a b x) w 268435456 r n S u (fun j => j < l) C V lb → hX12_laysLight_134 f Φ (fun q0 v2 v3 m => hX12_laysLight_43 f Φ k q0 v2 v3 m) k2 q x n u l (rD m q C (st T u 1)) := by
                intro k2
                induction k2 with
                | zero => intro l C V lb b1 b2; omega
                | succ k2 ih2 =>
                  intro l C V lb b1 b2 J
                  have hCu2 : 0 ≤ C u ∧ C u ≤ 99 * n := ⟨(J.2.1 u hu).1, J.2.2.1.2.2.2.2⟩
                  unfold hX12_laysLight_134
                  rw [r0, g22]
                  refine ⟨⟨by omega, by omega⟩, ⟨by omega, by omega⟩, fun c4 => ?_, fun c4 => ⟨⟨by omega, by omega⟩, hx, fun c5 => ?_, fun c5 => ?_⟩⟩
                  · exact ih (n + 1) _ C _ V lb (by omega) (by omega) hT' (zDJ_end W J (fun l' v hj => by have := hj.1.1; omega))
                  · refine pX12_overFrom gL gN (m := rD m q C (st T u 1)) (fun l hl => by rw [r18, r19]; exact g2 l hl) hab (show l < L by omega) hu ?_ ?_
                    · intro v hjn
                      have hvN := hjn.2.2.1
                      have hwl := hw l (by omega)
                      have hCv := J.2.1 v hvN
                      have hvC : C v ≤ 268435456 := by rcases hCv.2 with h | h <;> omega
                      unfold hX12_laysLight_161
                      simp only [rD_31, r20, Int.toNat_natCast, h20 l (by omega)]
                      refine ⟨⟨by omega, by omega⟩, fun c6 => by omega, fun _ => ⟨⟨by omega, by omega⟩, ⟨by omega, by omega⟩, ⟨by omega, by omega⟩, ⟨by omega, by omega⟩, ⟨by omega, by omega⟩, fun c6 => ?_, fun c6 => ⟨⟨by omega, by omega⟩, ⟨by omega, by omega⟩, ⟨by omega, by omega⟩, ?_⟩⟩⟩
                      · refine ih2 (l + 1) C V lb (by omega) (by omega) (zDJ_skip J (fun l' v' hl' hj' => ?_))
                        by_cases e : l' = l
                        · subst e; right; rw [zJ_other hj'.1 hjn]; exact c6
                        · exact Or.inl (by omega)
                      · obtain ⟨p1, p2⟩ := zDJ_upd W J (D' := fun j => j < l + 1) (l := l) (v := v) ⟨hjn, c5⟩ (by omega) (fun l' v' hl' hj' => by
                          by_cases e : l' = l
                          · subst e; exact Or.inr ⟨zJ_other hj'.1 hjn, rfl⟩
                          · exact Or.inl (by omega))
                        rintro _ rfl
                        rw [rD_w31]
                        exact ih2 (l + 1) _ _ _ (by omega) (by omega) p2
                    · intro hno
                      unfold hX12_laysLight_161
                      refine ⟨by decide, fun _ => ih2 (l + 1) C V lb (by omega) (by omega) (zDJ_skip J (fun l' v' hl' hj' => ?_)), fun c => absurd rfl c⟩
                      by_cases e : l' = l
                      · subst e; exact absurd hj'.1 (hno v')
                      · exact Or.inl (by omega)
                  · unfold hX12_laysLight_161
                    refine ⟨by decide, fun _ => ih2 (l + 1) C V lb (by omega) (by omega) (zDJ_skip J (fun l' v' hl' hj' => ?_)), fun c => absurd rfl c⟩
                    by_cases e : l' = l
                    · subst e; exact absurd c5 hj'.2
                    · exact Or.inl (by omega)
              exact inner f 0 C V lb (by omega) (by omega) (zDJ_skip J0 (fun l v hl => by omega))
            · by_cases hs : S v = true
              · exact hs
              · have := hmin v hv (by simpa using hs)
                omega
        · have hTi := hT i (by omega)
          have hCi := hCb i (by omega)
          by_cases hs : S i = true
          · rw [if_pos hs] at hTi
            rw [hTi]
            refine ⟨⟨by omega, by omega⟩, by decide, fun _ => ih' (i + 1) z (by omega) (by omega) ?_, fun c => absurd c (by decide)⟩
            rcases a3 with ⟨h3, h4⟩ | ⟨u, b1, b2, b3, b4⟩
            · refine Or.inl ⟨h3, fun v hv => ?_⟩
              by_cases e : v = i
              · subst e; exact hs
              · exact h4 v (by omega)
            · refine Or.inr ⟨u, by omega, b2, b3, fun v hv hsv => ?_⟩
              by_cases e : v = i
              · subst e; rw [hs] at hsv; cases hsv
              · exact b4 v (by omega) hsv
          · have hs' : S i = false := by simpa using hs
            rw [if_neg hs] at hTi
            rw [hTi]
            rcases a3 with ⟨rfl, h4⟩ | ⟨u, b1, rfl, b3, b4⟩
            · refine ⟨⟨by omega, by omega⟩, by decide, fun c => absurd rfl c, fun _ => ⟨by decide, fun _ => ih' (i + 1) i (by omega) (by omega) (Or.inr ⟨i, by omega, rfl, hs', fun v hv hsv => ?_⟩), fun c => absurd rfl c⟩⟩
              by_cases e : v = i
              · subst e; exact Int.le_refl _
              · rw [h4 v (by omega)] at hsv; cases hsv
            · have hCu := hCb u (by omega)
              rw [Int.toNat_natCast]
              refine ⟨⟨by omega, by omega⟩, by decide, fun c => absurd rfl c, fun _ => ⟨⟨by omega, by omega⟩, fun c3 => by omega, fun _ => ⟨⟨by omega, by omega⟩, ⟨by omega, by omega⟩, ⟨by omega, by omega⟩, ⟨by omega, by omega⟩, fun c3 => ih' (i + 1) u (by omega) (by omega) (Or.inr ⟨u, by omega, rfl, b3, fun v hv hsv => ?_⟩), fun c3 => ih' (i + 1) i (by omega) (by omega) (Or.inr ⟨i, by omega, rfl, hs', fun v hv hsv => ?_⟩)⟩⟩⟩
              · by_cases e : v = i
                · subst e; exact c3
                · exact b4 v (by omega) hsv
              · by_cases e : v = i
                · subst e; exact Int.le_refl _
                · have := b4 v (by omega) hsv; omega
    exact scan f 0 (-1) (by omega) (by omega) (Or.inl ⟨rfl, fun v hv => by omega⟩)
theorem pX12_laysLight {f : Nat} {Φ : aj_M → Prop} {q : List Nat} {m : aj_M} {N L : Nat} {a b : Nat → Nat} {w : Nat → Int} {x : Int} (H : nR m q N L a b) (hw : ∀ l, l < L → 1 ≤ w l ∧ w l ≤ 99) (h20 : ∀ l, l < L → m (20 :: q) l = w l) (hx : rI x) {r : Nat} (hr : r < N) (hf : 300 ≤ f) (hK : ∀ C T V lb : Nat → Int, zDC N (zJb N L a b x) w 268435456 r C V lb → Φ (rD m q C T)) : wX12_laysLight f Φ q r x m := by
  have hN : N ≤ 60 := H.2.2.2.1
  have W := zjw_Jb (a := a) (b := b) (x := x) hw (show 6100 < (268435456 : Int) by decide) hN
  have r0 : ∀ C T : Nat → Int, rD m q C T q = m q := fun C T => rD_off (by simp) (by simp)
  unfold wX12_laysLight
  rw [← rD_self (m := m) (q := q)]
  refine zfor (H := fun k i s => hX12_laysLight_2 f Φ k q r x i s) (N := N) (fun i s => ∃ C T : Nat → Int, s = rD m q C T ∧ ∀ v, v < i → C v = (if v = r then 0 else 268435456) ∧ T v = 0) ?_ f 0 _ (by omega) (by omega) ⟨_, _, rfl, fun v hv => by omega⟩
  rintro k i s hi ⟨C, T, rfl, hCT⟩ hn
  unfold hX12_laysLight_2
  rw [r0, H.2.1]
  refine ⟨⟨by omega, by omega⟩, ⟨by omega, by omega⟩, fun c => ?_, fun c => ⟨⟨by omega, by omega⟩, ⟨by omega, by omega⟩, fun c2 => ⟨⟨by omega, by omega⟩, ?_⟩, fun c2 => ⟨⟨by omega, by omega⟩, ?_⟩⟩⟩
  · exact ll_r H hw h20 hx hf hK f 0 (fun _ => false) C T (fun _ => -1) (fun _ => -1) (by omega) (by omega) (fun v hv => by rw [(hCT v (by omega)).2]; rfl) (zDI_first W hr (fun v hv => (hCT v (by omega)).1) rfl)
  · rintro _ rfl
    rw [rD_w31]
    refine ⟨⟨by omega, by omega⟩, ?_⟩
    rintro _ rfl
    rw [rD_w32, Int.toNat_natCast]
    refine hn (by omega) _ ⟨_, _, rfl, fun v hv => ?_⟩
    by_cases e : v = i
    · subst e; rw [st_at, st_at, if_neg (by omega)]; exact ⟨rfl, rfl⟩
    · rw [st_ne e, st_ne e]; exact hCT v (by omega)
  · rintro _ rfl
    rw [rD_w31]
    refine ⟨⟨by omega, by omega⟩, ?_⟩
    rintro _ rfl
    rw [rD_w32, Int.toNat_natCast]
    refine hn (by omega) _ ⟨_, _, rfl, fun v hv => ?_⟩
    by_cases e : v = i
    · subst e; rw [st_at, st_at, if_pos (by omega)]; exact ⟨rfl, rfl⟩
    · rw [st_ne e, st_ne e]; exact hCT v (by omega)
theorem pX12_toldFar {f : Nat} {Φ : Int → aj_M → Prop} {z : Int} {m : aj_M} (hz : 0 ≤ z ∧ z ≤ 268435456) (h1 : z < 268435456 → Φ z m) (h0 : z = 268435456 → Φ (-1) m) : wX12_toldFar f Φ z m := by
  unfold wX12_toldFar
  exact ⟨⟨by omega, by omega⟩, fun c => h1 (by omega), fun c => h0 c⟩
theorem pX11_orNone {f : Nat} {Φ : Int → aj_M → Prop} {z : Int} {m : aj_M} (hz : rI z) (h1 : z < 1000000 → Φ z m) (h0 : 1000000 ≤ z → Φ (-1) m) : wX11_orNone f Φ z m := by
  unfold wX11_orNone
  exact ⟨hz, fun c => h1 c, fun c => h0 (by omega)⟩
def zSe (N L : Nat) (a b : Nat → Nat) (w : Nat → Int) (n : Nat) (best : Int) : Prop := (best = 268435456 ∧ ∀ l y, l < n → ¬ zDl N L a b w l y) ∨ (∃ l, l < n ∧ zDl N L a b w l best ∧ ∀ l' y, l' < n → zDl N L a b w l' y → best ≤ y)
theorem pX12_lightest0 {f : Nat} {Φ : Int → aj_M → Prop} {q : List Nat} {m : aj_M} {N L : Nat} {a b : Nat → Nat} {w : Nat → Int} (H : nR m q N L a b) (hw : ∀ l, l < L → 1 ≤ w l ∧ w l ≤ 99) (h20 : ∀ l, l < L → m (20 :: q) l = w l) (hf : 300 ≤ f) (hK : ∀ (z : Int) (m' : aj_M), zLt N L a b w z → zo [31 :: q, 32 :: q] m m' → Φ z m') : hX12_lightest_15 f Φ f q 268435456 0 m := by
  have hN : N ≤ 60 := H.2.2.2.1
  have hL : L ≤ 144 := H.2.2.2.2.1
  have hab := H.2.2.2.2.2.1
  have bd : ∀ n best, n ≤ L → zSe N L a b w n best → 0 ≤ best ∧ best ≤ 268435456 := by
    rintro n best hn (⟨rfl, _⟩ | ⟨l, h1, h2, _⟩)
    · omega
    · have := zDl_b hw hab (show l < L by omega) h2; omega
  have key : ∀ (k n : Nat) (best : Int) (m1 : aj_M), n ≤ L → L - n < k → zSe N L a b w n best → zo [31 :: q, 32 :: q] m m1 → hX12_lightest_15 f Φ k q best n m1 := by
    intro k
    induction k with
    | zero => intro n best m1 h1 h2; omega
    | succ k ih =>
      intro n best m1 h1 h2 hS hz
      have hb := bd n best h1 hS
      have Hm : nR m1 q N L a b := nR_of H (by rw [hz q (by simp)]) (by rw [hz q (by simp)]) (hz _ (by simp)) (hz _ (by simp))
      unfold hX12_lightest_15
      rw [Hm.1]
      refine ⟨⟨by omega, by omega⟩, ⟨by omega, by omega⟩, fun c => ?_, fun c => ⟨⟨by omega, by omega⟩, ?_⟩⟩
      · have e : n = L := by omega
        subst e
        refine pX12_toldFar hb (fun h => hK _ _ ?_ hz) (fun h => hK _ _ ?_ hz)
        · rcases hS with ⟨h3, _⟩ | ⟨l, h3, h4, h5⟩
          · omega
          · exact Or.inr ⟨l, h3, h4, h5⟩
        · rcases hS with ⟨_, h4⟩ | ⟨l, h3, h4, h5⟩
          · exact Or.inl ⟨rfl, fun l hl y => h4 l y hl⟩
          · have := zDl_b hw hab h3 h4; omega
      · have hn : n < L := by omega
        have hN' := hab n hn
        have h2' := Hm.2.2.2.2.2.2 n hn
        have hwn := hw n hn
        rw [Int.toNat_natCast, h2'.1]
        refine pX12_laysLight Hm hw (fun l hl => by rw [hz _ (by simp)]; exact h20 l hl) ⟨by omega, by omega⟩ hN'.1 hf ?_
        intro C T V lb HC
        have hz2 : zo [31 :: q, 32 :: q] m (rD m1 q C T) := by
          intro r hr
          rw [rD_off (fun e => hr (by rw [e]; simp)) (fun e => hr (by rw [e]; simp))]
          exact hz r hr
        have hCb := HC.2.1 (b n) hN'.2
        have HC' : zDC N (zJx N L a b n) w 268435456 (a n) C V lb := zDC_congr (fun l u v => ⟨fun h => ⟨h.1, by have := h.2; omega⟩, fun h => ⟨h.1, by have := h.2; omega⟩⟩) HC
        rw [rD_31, rD_off (show (19 :: q) ≠ 31 :: q by simp) (by simp), rD_off (show (20 :: q) ≠ 31 :: q by simp) (by simp), h2'.2, Int.toNat_natCast, hz (20 :: q) (by simp), h20 n hn]
        have hDn : C (b n) < 268435456 → zDl N L a b w n (C (b n) + w n) := fun h => ⟨268435456, C, V, lb, by decide, HC', h, rfl⟩
        have hDno : C (b n) = 268435456 → ∀ y, ¬ zDl N L a b w n y := by
          rintro h y ⟨inf', C', vi', lb', g1, g2, g3, _⟩
          have := (zDC_le' (zjw_Jx hw g1 hN) (zjw_Jx hw (by decide) hN) (fun _ _ _ h => h) g2 HC' hN'.2 g3).1
          omega
        refine ⟨⟨by omega, by omega⟩, ⟨by omega, by omega⟩, ⟨by omega, by omega⟩, fun c2 => ?_, fun c2 => ⟨⟨by omega, by omega⟩, fun c3 => ?_, fun c3 => by omega⟩⟩
        · have hfin : C (b n) < 268435456 := by omega
          have hD := hDn hfin
          refine ⟨⟨by omega, by omega⟩, ⟨by omega, by omega⟩, ⟨by omega, by omega⟩, ⟨by omega, by omega⟩, ⟨by omega, by omega⟩, fun c3 => ih (n + 1) best _ (by omega) (by omega) ?_ hz2, fun c3 => ih (n + 1) _ _ (by omega) (by omega) ?_ hz2⟩
          · rcases hS with ⟨h3, _⟩ | ⟨l, h3, h4, h5⟩
            · omega
            · refine Or.inr ⟨l, by omega, h4, fun l' y hl' hy => ?_⟩
              by_cases e : l' = n
              · subst e; rw [← zDl_u hw hab hN hn hD hy]; exact c3
              · exact h5 l' y (by omega) hy
          · refine Or.inr ⟨n, by omega, hD, fun l' y hl' hy => ?_⟩
            by_cases e : l' = n
            · subst e; rw [zDl_u hw hab hN hn hD hy]; exact Int.le_refl _
            · rcases hS with ⟨_, h4⟩ | ⟨l, h3, h4, h5⟩
              · exact absurd hy (h4 l' y (by omega))
              · have := h5 l' y (by omega) hy; omega
        · refine ih (n + 1) best _ (by omega) (by omega) ?_ hz2
          rcases hS with ⟨h3, h4⟩ | ⟨l, h3, h4, h5⟩
          · refine Or.inl ⟨h3, fun l y hl hy => ?_⟩
            by_cases e : l = n
            · subst e; exact hDno c2 y hy
            · exact h4 l y (by omega) hy
          · refine Or.inr ⟨l, by omega, h4, fun l' y hl' hy => ?_⟩
            by_cases e : l' = n
            · subst e; exact absurd hy (hDno c2 y)
            · exact h5 l' y (by omega) hy
  exact key f 0 268435456 m (by omega) (by omega) (Or.inl ⟨rfl, fun l y h => by omega⟩) zo_refl
