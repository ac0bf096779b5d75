/-- the ring that the class keeps -/
def zRg (N L : Nat) (a b : Nat → Nat) (len : Int) (row : Nat → Int) : Prop := (len = 0 ∧ ∀ r k, ¬ zTW N L a b r k) ∨ (∃ (g : Nat) (x : Nat → Nat), len = g ∧ g ≤ 60 ∧ (∃ r, zTW N L a b r g) ∧ (∀ r k, zTW N L a b r k → g ≤ k) ∧ zFst N L a b g x ∧ ∀ i, i < g → row i = x i)
theorem zlt_bits {s : Nat} : ∀ v, (2 ^ s - 1).testBit v = decide (v < s) := fun v => Nat.testBit_two_pow_sub_one s v
theorem pX8_findFrom {f : Nat} {Φ : Int → aj_M → Prop} {m0 : aj_M} {N L : Nat} {a b s e : Nat → Nat} (H0 : nC m0 [3, 8, 0] N L a b s e) (hvi : ∀ k, rI (m0 [12, 3, 8, 0] k)) {g : Nat} (hg2 : 2 ≤ g) (hgN : g ≤ 60) (hmin : ∀ r' k', zTW N L a b r' k' → g ≤ k') (hf : 300 ≤ f) {x0 : Nat} (hx0 : x0 < N) {m : aj_M} (hG : zG m0 m) (h1 : m [8, 0] 1 = g) (h0 : m [8, 0] 0 = m0 [8, 0] 0) (hp0 : m [2, 8, 0] 0 = x0) (hB : m [3, 8, 0] 16 = ((2 ^ x0 - 1 : Nat) : Int))
    (hy : ∀ (m' : aj_M) (x : Nat → Nat), zG m0 m' → m' [8, 0] 1 = g → m' [8, 0] 0 = m0 [8, 0] 0 → (∀ i, i < g → m' [2, 8, 0] i = x i) → zUR N L a b g x → x 0 = x0 → (∀ y, zUR N L a b g y → y 0 = x0 → zlex g x y) → Φ 1 m')
    (hn : ∀ m' : aj_M, zG m0 m' → m' [8, 0] 1 = g → m' [8, 0] 0 = m0 [8, 0] 0 → m' [3, 8, 0] 16 = ((2 ^ (x0 + 1) - 1 : Nat) : Int) → (∀ y, zUR N L a b g y → y 0 = x0 → False) → Φ 0 m') : wX8_findFrom f Φ [8, 0] x0 m := by
  have hab := H0.2.2.2.2.2.1.1
  have hN : N ≤ 60 := H0.2.2.2.1
  have hL : L ≤ 144 := H0.2.2.2.2.1
  have hp60 : 2 ^ x0 < 2 ^ 60 := Nat.pow_lt_pow_right (by decide) (by omega)
  unfold wX8_findFrom
  have key : ∀ (kk w : Nat) (m : aj_M), x0 + 1 ≤ w → w ≤ N → N - w < kk → zG m0 m → m [8, 0] 1 = g → m [8, 0] 0 = m0 [8, 0] 0 → m [2, 8, 0] 0 = x0 → m [3, 8, 0] 16 = ((2 ^ x0 - 1 : Nat) : Int) → (∀ y, zUR N L a b g y → y 0 = x0 → y 1 < w → False) → hX8_findFrom_4 f Φ kk [8, 0] x0 w m := by
    intro kk
    induction kk with
    | zero => intro w m a1 a2 a3; omega
    | succ kk ih =>
      intro w m a1 a2 a3 hG h1 h0 hp0 hB hno
      have Hm := zG_nC hG H0
      have eN : m (3 :: [8, 0]) 0 = N := Hm.1
      have eB : m (3 :: [8, 0]) 16 = ((2 ^ x0 - 1 : Nat) : Int) := hB
      unfold hX8_findFrom_4
      rw [eN, eB]
      refine ⟨⟨by omega, by omega⟩, ⟨by omega, by omega⟩, fun c => ?_, fun c => ?_⟩
      · rintro _ rfl
        refine hn _ (zG_tr hG zG_16) (by rw [aj_u_off (by decide), h1]) (by rw [aj_u_off (by decide), h0]) ?_ (fun y hyU e0 => ?_)
        · have r : aj_u m (3 :: [8, 0]) 16 (aj_lorL ((2 ^ x0 - 1 : Nat) : Int) (aj_lshl 1 (x0 : Int))) [3, 8, 0] 16 = aj_lorL ((2 ^ x0 - 1 : Nat) : Int) (aj_lshl 1 (x0 : Int)) := by rw [aj_u_at, if_pos rfl]
          rw [r, zl_shl (by omega), zl_or (by omega) (by omega)]
          congr 1
          apply Nat.eq_of_testBit_eq
          intro v
          rw [zt_or, zlt_bits, zlt_bits]
          by_cases hv : v = x0
          · subst hv; simp
          · by_cases hv2 : v < x0
            · simp [hv2]; omega
            · simp [hv2, Ne.symm hv]; omega
        · have := hyU.2.2.1 1 (by omega) (by omega)
          exact hno y hyU e0 (by omega)
      · refine pX5_linksBetween (q := 3 :: [8, 0]) Hm (by omega) (by omega) hf ?_
        have hjl := zjn_le (L := L) (a := a) (b := b) (u := x0) (v := w)
        refine ⟨⟨by omega, by omega⟩, fun c2 => ih (w + 1) m (by omega) (by omega) (by omega) hG h1 h0 hp0 hB (fun y hyU e0 e1 => ?_), fun c2 => ?_⟩
        · by_cases e : y 1 = w
          · have := hyU.2.2.2.2.1 0 (by omega)
            rw [e0, show (0 : Nat) + 1 = 1 by rfl, e] at this
            omega
          · exact hno y hyU e0 (by omega)
        · rintro _ rfl
          rintro _ rfl
          have h2w : 2 ^ w < 2 ^ 60 := Nat.pow_lt_pow_right (by decide) (by omega)
          have hGw : zG m0 (aj_u m (2 :: [8, 0]) (1 : Int).toNat w) := zG_tr hG (zG_u (Or.inr rfl))
          have r16 : aj_u m (2 :: [8, 0]) (1 : Int).toNat (w : Int) (3 :: [8, 0]) 16 = ((2 ^ x0 - 1 : Nat) : Int) := by rw [aj_u_off (by decide)]; exact hB
          rw [r16, zl_shl (by omega), zl_or (by omega) (by omega)]
          generalize hM : aj_u (aj_u m (2 :: [8, 0]) (1 : Int).toNat (w : Int)) (3 :: [8, 0]) 16 (((2 ^ x0 - 1) ||| 2 ^ w : Nat) : Int) = M
          have hGM : zG m0 M := by rw [← hM]; exact zG_tr hGw zG_16
          have M1 : M [8, 0] 1 = g := by rw [← hM, aj_u_off (by decide), aj_u_off (by decide), h1]
          have M0 : M [8, 0] 0 = m0 [8, 0] 0 := by rw [← hM, aj_u_off (by decide), aj_u_off (by decide), h0]
          have Mp0 : M [2, 8, 0] 0 = x0 := by rw [← hM, aj_u_off (by decide), aj_u_at, if_neg (by decide)]; exact hp0
          have Mp1 : M [2, 8, 0] 1 = w := by rw [← hM, aj_u_off (by decide), aj_u_at, if_pos (by decide)]
          have M16 : M [3, 8, 0] 16 = (((2 ^ x0 - 1) ||| 2 ^ w : Nat) : Int) := by rw [← hM, aj_u_at, if_pos rfl]
          have hBl : (2 ^ x0 - 1) ||| 2 ^ w < 2 ^ 60 := Nat.or_lt_two_pow (by omega) h2w
          have hbr : ∀ v, v < N → (((2 ^ x0 - 1) ||| 2 ^ w).testBit v = true ↔ v < x0 ∨ w = v) := by
            intro v hv
            rw [zt_or, zlt_bits]
            simp only [Bool.or_eq_true, decide_eq_true_eq]
          -- back to the bars ahead
          have back : ∀ m' : aj_M, zG m0 m' → m' [8, 0] 1 = g → m' [8, 0] 0 = m0 [8, 0] 0 → m' [2, 8, 0] 0 = x0 → m' [3, 8, 0] 16 = (((2 ^ x0 - 1) ||| 2 ^ w : Nat) : Int) → (∀ y, zUR N L a b g y → y 0 = x0 → y 1 = w → False) → ∀ m6, m6 = aj_u m' (3 :: [8, 0]) 16 (aj_landL (m' (3 :: [8, 0]) 16) (aj_lxorL ((2 ^ w : Nat) : Int) (-1))) → hX8_findFrom_4 f Φ kk [8, 0] x0 ((w : Int) + 1) m6 := by
            rintro m' q1 q2 q3 q4 q5 q6 _ rfl
            rw [← zl_shl (i := w) (by omega)]
            have q5' : m' (3 :: [8, 0]) 16 = (((2 ^ x0 - 1) ||| 2 ^ w : Nat) : Int) := q5
            obtain ⟨B', b1, b2, b3⟩ := zl_clr (n := (2 ^ x0 - 1) ||| 2 ^ w) (i := w) (by omega) (by omega)
            rw [q5', b2]
            have eB' : B' = 2 ^ x0 - 1 := by
              apply Nat.eq_of_testBit_eq
              intro v
              rw [b3, zt_or, zlt_bits]
              by_cases hv : v = w
              · subst hv; simp; omega
              · simp [hv, Ne.symm hv]
            refine ih (w + 1) _ (by omega) (by omega) (by omega) (zG_tr q1 zG_16) (by rw [aj_u_off (by decide), q2]) (by rw [aj_u_off (by decide), q3]) (by rw [aj_u_off (by decide), q4]) (by rw [aj_u_at, if_pos rfl, eB']) (fun y hyU e0 e1 => ?_)
            by_cases e : y 1 = w
            · exact q6 y hyU e0 e
            · exact hno y hyU e0 (by omega)
          rw [M1]
          refine ⟨⟨by omega, by omega⟩, fun c3 => ?_, fun c3 => ?_⟩
          · refine pX8_findRest H0 hvi (by omega) hgN hmin hf hBl hGM M1 M0 Mp0 Mp1 M16 hx0 ⟨by omega, by omega⟩ (by omega) hbr ?_ ?_
            · intro m' x q1 q2 q3 q4 q5 q6 q7 q8
              refine zc1' (hy m' x q1 q2 q3 q4 q5 q6 (fun y hyU e0 => ?_))
              rcases Nat.lt_trichotomy (y 1) w with h | h | h
              · exact (hno y hyU e0 h).elim
              · exact q8 y hyU e0 h
              · exact Or.inr ⟨1, by omega, fun j hj => by rw [show j = 0 by omega, q6, e0], by rw [q7]; exact h⟩
            · intro m' q1 q2 q3 q4 q5 q6
              exact zb0' (back m' q1 q2 q3 q4 q5 q6)
          · have hg : g = 2 := by omega
            subst hg
            refine ⟨⟨by omega, by omega⟩, fun c4 => ?_, fun c4 => ?_⟩
            · refine back M hGM M1 M0 Mp0 M16 (fun y hyU e0 e1 => ?_)
              have := hyU.2.2.2.2.2
              rw [if_pos rfl, e0, show (2 - 1 : Nat) = 1 by rfl, e1, zjn_sym] at this
              omega
            · refine hy M (fun i => if i = 0 then x0 else w) hGM M1 M0 (fun i hi => ?_) ⟨by omega, hx0, fun i i1 i2 => ?_, fun i j i1 i2 => ?_, fun i hi => ?_, ?_⟩ rfl (fun y hyU e0 => ?_)
              · have : i = 0 ∨ i = 1 := by omega
                rcases this with rfl | rfl
                · exact Mp0
                · exact Mp1
              · rw [show i = 1 by omega]; show x0 < w ∧ w < N; omega
              · rw [show i = 0 by omega, show j = 1 by omega]; show x0 ≠ w; omega
              · rw [show i = 0 by omega]; show zjn L a b x0 w ≠ 0; omega
              · show _ < zjn L a b w x0
                rw [if_pos rfl, zjn_sym]; omega
              · rcases Nat.lt_trichotomy (y 1) w with h | h | h
                · exact (hno y hyU e0 h).elim
                · refine Or.inl (fun i hi => ?_)
                  have : i = 0 ∨ i = 1 := by omega
                  rcases this with rfl | rfl
                  · exact e0.symm
                  · exact h.symm
                · exact Or.inr ⟨1, by omega, fun j hj => by rw [show j = 0 by omega]; exact e0.symm, h⟩
  exact key f (x0 + 1) m (Nat.le_refl _) (by omega) (by omega) hG h1 h0 hp0 hB (fun y hyU e0 e1 => by have := hyU.2.2.1 1 (by omega) (by omega); omega)
def zlB (N L : Nat) (a b : Nat → Nat) (g n : Nat) (done B : Int) (row : Nat → Int) : Prop := (done = 0 ∧ (2 ≤ g → B = ((2 ^ n - 1 : Nat) : Int)) ∧ ∀ y, zUR N L a b g y → y 0 < n → False) ∨ (done = 1 ∧ ∃ x, zFst N L a b g x ∧ ∀ i, i < g → row i = x i)
theorem pX8_findFirst {f : Nat} {Φ : aj_M → Prop} {m0 : aj_M} {N L : Nat} {a b s e : Nat → Nat} (H0 : nC m0 [3, 8, 0] N L a b s e) (hvi : ∀ k, rI (m0 [12, 3, 8, 0] k)) (h16 : m0 [3, 8, 0] 16 = 0) (hf : 300 ≤ f) (hkn : m0 [8, 0] 0 = 0 ∨ (m0 [8, 0] 0 = 1 ∧ zRg N L a b (m0 [8, 0] 1) (m0 [2, 8, 0]))) (hK : ∀ m' : aj_M, zG m0 m' → m' [3, 8, 0] 16 = 0 → m' [8, 0] 0 = 1 → zRg N L a b (m' [8, 0] 1) (m' [2, 8, 0]) → Φ m') : wX8_findFirst f Φ [8, 0] m0 := by
  have hab := H0.2.2.2.2.2.1.1
  have hN : N ≤ 60 := H0.2.2.2.1
  have hL : L ≤ 144 := H0.2.2.2.2.1
  unfold wX8_findFirst
  rcases hkn with hkn | ⟨hkn, hr⟩
  · rw [hkn]
    refine ⟨by decide, fun _ => ?_, fun c => absurd rfl c⟩
    rintro _ rfl
    have hG1 : zG m0 (aj_u m0 [8, 0] 0 1) := zG_u (Or.inl rfl)
    have H1 := zG_nC hG1 H0
    refine pX5_shortestRing (q := 3 :: [8, 0]) H1 hf (hG1.2.2 hvi) ?_
    intro z d vi qu Hvi hz
    generalize hM : nB (aj_u m0 [8, 0] 0 1) (3 :: [8, 0]) d vi (aj_u m0 [8, 0] 0 1 (13 :: 3 :: [8, 0])) qu = M
    have hGM : zG m0 M := by rw [← hM]; exact zG_tr hG1 (zG_nB Hvi)
    have M0 : M [8, 0] 0 = 1 := by rw [← hM, nB_off (by decide) (by decide) (by decide) (by decide), aj_u_at, if_pos rfl]
    have M16 : M [3, 8, 0] 16 = 0 := by
      rw [← hM]
      have : nB (aj_u m0 [8, 0] 0 1) (3 :: [8, 0]) d vi (aj_u m0 [8, 0] 0 1 (13 :: 3 :: [8, 0])) qu [3, 8, 0] = aj_u m0 [8, 0] 0 1 [3, 8, 0] := nB_r0
      rw [this, aj_u_off (by decide), h16]
    rcases hz with ⟨rfl, hnoT⟩ | ⟨r, g, rfl, hg2N, hT, hmin⟩
    · -- no ring
      refine ⟨by decide, fun _ => ?_, fun c => absurd (by decide) c⟩
      rintro _ rfl
      rw [aj_u_at, if_pos rfl]
      refine ⟨by decide, fun c => absurd rfl c, fun _ => ?_⟩
      obtain ⟨f, rfl⟩ : ∃ f', f = f' + 1 := ⟨f - 1, by omega⟩
      unfold hX8_findFirst_51
      have hG2 : zG m0 (aj_u M [8, 0] 1 0) := zG_tr hGM (zG_u (Or.inl rfl))
      have eN : aj_u M [8, 0] 1 0 (3 :: [8, 0]) 0 = N := (zG_nC hG2 H0).1
      rw [eN]
      have fin : ∀ m1, m1 = aj_u (aj_u M [8, 0] 1 0) (3 :: [8, 0]) 16 0 → Φ m1 := by
        rintro _ rfl
        refine hK _ (zG_tr hG2 zG_16) (by rw [aj_u_at, if_pos rfl]) (by rw [aj_u_off (by decide), aj_u_at, if_neg (by decide), M0]) (Or.inl ⟨by rw [aj_u_off (by decide), aj_u_at, if_pos rfl], hnoT⟩)
      exact ⟨by decide, ⟨by omega, by omega⟩, fun _ => fin, fun _ => ⟨by decide, fun _ => fin, fun c => absurd c (by decide)⟩⟩
    · obtain ⟨hgN, xu, hxu⟩ := zUR_ex hab hT hmin
      have hg1 := hT.1
      refine ⟨⟨by omega, by omega⟩, fun c => by omega, fun _ => ?_⟩
      rintro _ rfl
      rw [aj_u_at, if_pos rfl]
      refine ⟨⟨by omega, by omega⟩, fun _ => ?_, fun c => by omega⟩
      have hG2 : zG m0 (aj_u M [8, 0] 1 (g : Int)) := zG_tr hGM (zG_u (Or.inl rfl))
      -- what is asked at the end
      have fin : ∀ (m' : aj_M) (x : Nat → Nat), zG m0 m' → m' [8, 0] 1 = g → m' [8, 0] 0 = 1 → (∀ i, i < g → m' [2, 8, 0] i = x i) → zFst N L a b g x → ∀ m1, m1 = aj_u m' (3 :: [8, 0]) 16 0 → Φ m1 := by
        rintro m' x q1 q2 q3 q4 q5 _ rfl
        refine hK _ (zG_tr q1 zG_16) (by rw [aj_u_at, if_pos rfl]) (by rw [aj_u_off (by decide), q3]) (Or.inr ⟨g, x, by rw [aj_u_off (by decide), q2], by omega, ⟨r, hT⟩, hmin, q5, fun i hi => by rw [aj_u_off (by decide)]; exact q4 i hi⟩)
      have key : ∀ (kk n : Nat) (m : aj_M) (done : Int), n ≤ N → N - n < kk → zG m0 m → m [8, 0] 1 = g → m [8, 0] 0 = 1 → zlB N L a b g n done (m [3, 8, 0] 16) (m [2, 8, 0]) → hX8_findFirst_51 f Φ kk [8, 0] done n m := by
        intro kk
        induction kk with
        | zero => intro n m done a1 a2; omega
        | succ kk ih =>
          intro n m done a1 a2 hG h1 h0 hd
          have Hm := zG_nC hG H0
          have eN : m (3 :: [8, 0]) 0 = N := Hm.1
          unfold hX8_findFirst_51
          rw [eN]
          rcases hd with ⟨rfl, hB, hno⟩ | ⟨rfl, x, hx, hxr⟩
          · refine ⟨⟨by omega, by omega⟩, ⟨by omega, by omega⟩, fun c => (hno xu hxu (by have := hxu.2.1; omega)).elim, fun c => ⟨by decide, fun c2 => absurd rfl c2, fun _ => ?_⟩⟩
            rintro _ rfl
            have hGn : zG m0 (aj_u m (2 :: [8, 0]) (0 : Int).toNat n) := zG_tr hG (zG_u (Or.inr rfl))
            have n1 : aj_u m (2 :: [8, 0]) (0 : Int).toNat (n : Int) [8, 0] 1 = g := by rw [aj_u_off (by decide), h1]
            have n0 : aj_u m (2 :: [8, 0]) (0 : Int).toNat (n : Int) [8, 0] 0 = 1 := by rw [aj_u_off (by decide), h0]
            have np : aj_u m (2 :: [8, 0]) (0 : Int).toNat (n : Int) [2, 8, 0] 0 = n := by rw [aj_u_at, if_pos (by decide)]
            have n16 : 2 ≤ g → aj_u m (2 :: [8, 0]) (0 : Int).toNat (n : Int) [3, 8, 0] 16 = ((2 ^ n - 1 : Nat) : Int) := fun h => by rw [aj_u_off (by decide), hB h]
            rw [n1]
            have Hn := zG_nC hGn H0
            refine ⟨⟨by omega, by omega⟩, fun c2 => ?_, fun c2 => ?_⟩
            · have e00 : m0 [8, 0] 0 = 0 := hkn
              -- the first memory with the flag set
              have hG' : zG (aj_u m0 [8, 0] 0 1) (aj_u m (2 :: [8, 0]) (0 : Int).toNat (n : Int)) := by
                refine ⟨fun r hr => ?_, fun j j1 j2 => ?_, fun _ => hGn.2.2 hvi⟩
                · rw [hGn.1 r hr, aj_u_off (fun e => hr (by rw [e]; decide))]
                · rw [hGn.2.1 j j1 j2, aj_u_off (by decide)]
              refine pX8_findFrom (m0 := aj_u m0 [8, 0] 0 1) H1 (hG1.2.2 hvi) (g := g) (by omega) (by omega) hmin hf (by omega) hG' n1 (by rw [n0, aj_u_at, if_pos rfl]) np (n16 (by omega)) ?_ ?_
              · intro m' x q1 q2 q3 q4 q5 q6 q7
                refine ih (n + 1) m' 1 (by omega) (by omega) (zG_tr hG1 q1) q2 (by rw [q3, aj_u_at, if_pos rfl]) (Or.inr ⟨rfl, x, ⟨q5, fun y hy => ?_⟩, q4⟩)
                rcases Nat.lt_trichotomy (y 0) n with h | h | h
                · exact (hno y hy h).elim
                · exact q7 y hy h
                · exact Or.inr ⟨0, by omega, fun j hj => by omega, by rw [q6]; exact h⟩
              · intro m' q1 q2 q3 q4 q5
                refine ih (n + 1) m' 0 (by omega) (by omega) (zG_tr hG1 q1) q2 (by rw [q3, aj_u_at, if_pos rfl]) (Or.inl ⟨rfl, fun _ => q4, fun y hy hy0 => ?_⟩)
                by_cases ey : y 0 = n
                · exact q5 y hy ey
                · exact hno y hy (by omega)
            · have hg : g = 1 := by omega
              subst hg
              refine pX5_linksBetween (q := 3 :: [8, 0]) Hn (by omega) (by omega) hf ?_
              have hjl := zjn_le (L := L) (a := a) (b := b) (u := n) (v := n)
              have hp60 : 2 ^ n < 2 ^ 61 := Nat.pow_lt_pow_right (by decide) (by omega)
              refine ⟨⟨by omega, by omega⟩, fun c3 => ?_, fun c3 => ?_⟩
              · -- bars don't matter for a ring of one
                refine ih (n + 1) _ 0 (by omega) (by omega) hGn n1 n0 (Or.inl ⟨rfl, fun h => by omega, fun y hy hy0 => ?_⟩)
                by_cases ey : y 0 = n
                · have := hy.2.2.2.2.2
                  rw [if_neg (by decide), show (1 - 1 : Nat) = 0 by rfl, ey] at this
                  omega
                · exact hno y hy (by omega)
              · refine ih (n + 1) _ 1 (by omega) (by omega) hGn n1 n0 (Or.inr ⟨rfl, fun _ => n, ⟨⟨by omega, show n < N by omega, fun i i1 i2 => by omega, fun i j i1 i2 => by omega, fun i hi => by omega, ?_⟩, fun y hy => ?_⟩, fun i hi => ?_⟩)
                · rw [if_neg (by decide)]; show 0 < zjn L a b n n; omega
                · rcases Nat.lt_trichotomy (y 0) n with h | h | h
                  · exact (hno y hy h).elim
                  · exact Or.inl (fun i hi => by rw [show i = 0 by omega]; exact h.symm)
                  · exact Or.inr ⟨0, by omega, fun j hj => by omega, h⟩
                · rw [show i = 0 by omega]; exact np
          · exact ⟨⟨by omega, by omega⟩, ⟨by omega, by omega⟩, fun _ => fin m x hG h1 h0 hxr hx, fun _ => ⟨by decide, fun _ => fin m x hG h1 h0 hxr hx, fun c => absurd c (by decide)⟩⟩
      exact key f 0 _ 0 (by omega) (by omega) hG2 (by rw [aj_u_at, if_pos rfl]) (by rw [aj_u_at, if_neg (by decide), M0]) (Or.inl ⟨rfl, fun _ => by rw [aj_u_off (by decide), M16]; rfl, fun y _ h => by omega⟩)
  · rw [hkn]
    exact ⟨by decide, fun c => absurd c (by decide), fun _ => hK m0 zG_refl h16 hkn hr⟩
