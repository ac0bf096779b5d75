/-! LIGHTEST WAYS: the class -/
def nD (m : aj_M) (q : List Nat) (B : Int) (C V : Nat → Int) : aj_M := aj_ur (aj_ur (aj_ur m q (st (m q) 15 B)) (11 :: q) C) (12 :: q) V
theorem nD_off {m : aj_M} {q r : List Nat} {B : Int} {C V : Nat → Int} (h0 : r ≠ q) (h1 : r ≠ 11 :: q) (h2 : r ≠ 12 :: q) : nD m q B C V r = m r := by simp [nD, zr_ur, h0, h1, h2]
theorem nD_q {m : aj_M} {q : List Nat} {B : Int} {C V : Nat → Int} : nD m q B C V q = st (m q) 15 B := by simp [nD, zr_ur]
theorem nD_11 {m : aj_M} {q : List Nat} {B : Int} {C V : Nat → Int} : nD m q B C V (11 :: q) = C := by simp [nD, zr_ur]
theorem nD_12 {m : aj_M} {q : List Nat} {B : Int} {C V : Nat → Int} : nD m q B C V (12 :: q) = V := by simp [nD, zr_ur]
theorem nD_w15 {m : aj_M} {q : List Nat} {B x : Int} {C V : Nat → Int} : aj_u (nD m q B C V) q 15 x = nD m q x C V := by
  have e : st (st (m q) 15 B) 15 x = st (m q) 15 x := by
    funext k
    simp only [st]
    split <;> rfl
  simp [nD, zu_push, e]
theorem nD_w11 {m : aj_M} {q : List Nat} {B x : Int} {C V : Nat → Int} {j : Nat} : aj_u (nD m q B C V) (11 :: q) j x = nD m q B (st C j x) V := by simp [nD, zu_push]
theorem nD_w12 {m : aj_M} {q : List Nat} {B x : Int} {C V : Nat → Int} {j : Nat} : aj_u (nD m q B C V) (12 :: q) j x = nD m q B C (st V j x) := by simp [nD, zu_push]
theorem nD_N {m : aj_M} {q : List Nat} {B : Int} {C V : Nat → Int} (hV : ∀ k, rI (V k)) : zN q m (nD m q B C V) := by
  refine ⟨fun r hr => ?_, fun j hj => by rw [nD_q, st_ne hj], fun _ => by rw [nD_12]; exact hV⟩
  simp only [List.mem_cons, List.not_mem_nil, or_false, not_or] at hr
  exact nD_off hr.1 hr.2.2.1 hr.2.2.2.1
theorem pX5_lightestUnseen {f : Nat} {Φ : Int → aj_M → Prop} {q : List Nat} {m : aj_M} {N B : Nat} {C : Nat → Int} (g0 : m q 0 = N) (hN : N ≤ 60) (hB : m q 15 = B) (hB2 : B < 2 ^ 60) (h11 : m (11 :: q) = C) (hC : ∀ v, v < N → 0 ≤ C v ∧ C v ≤ 1000000) (hf : 300 ≤ f) (h1 : ∀ u, u < N → B.testBit u = false → C u < 1000000 → (∀ v, v < N → B.testBit v = false → C u ≤ C v) → Φ (u : Nat) m) (h0 : (∀ v, v < N → C v < 1000000 → B.testBit v = true) → Φ (-1) m) : wX5_lightestUnseen f Φ q m := by
  unfold wX5_lightestUnseen
  have key : ∀ (k n : Nat) (z least : Int), n ≤ N → N - n < k → ((z = -1 ∧ least = 1000000) ∨ (∃ u, u < n ∧ z = (u : Nat) ∧ B.testBit u = false ∧ C u < 1000000 ∧ least = C u)) → (∀ v, v < n → B.testBit v = false → least ≤ C v) → hX5_lightestUnseen_7 f Φ k q z least n m := by
    intro k
    induction k with
    | zero => intro n z least a1 a2; omega
    | succ k ih =>
      intro n z least a1 a2 a3 a4
      have hl : 0 ≤ least ∧ least ≤ 1000000 := by
        rcases a3 with h | ⟨u, b1, b2, b3, b4, rfl⟩
        · omega
        · have := hC u (by omega); omega
      unfold hX5_lightestUnseen_7
      rw [g0, hB, zl_bit (by omega) (by omega), h11, Int.toNat_natCast]
      refine ⟨⟨by omega, by omega⟩, ⟨by omega, by omega⟩, fun c => ?_, fun c => ?_⟩
      · have e : n = N := by omega
        subst e
        rcases a3 with ⟨rfl, rfl⟩ | ⟨u, b1, rfl, b3, b4, rfl⟩
        · refine h0 (fun v hv hCv => ?_)
          by_cases hb : B.testBit v = true
          · exact hb
          · have := a4 v hv (by simpa using hb); omega
        · exact h1 u b1 b3 b4 a4
      · have hCn := hC n (by omega)
        by_cases hb : B.testBit n = true
        · rw [if_pos hb]
          refine ⟨by decide, fun _ => ih (n + 1) z least (by omega) (by omega) (a3.imp id (fun ⟨u, b1, b2⟩ => ⟨u, by omega, b2⟩)) (fun v hv hbv => ?_), fun c => absurd c (by decide)⟩
          by_cases e : v = n
          · subst e; rw [hb] at hbv; cases hbv
          · exact a4 v (by omega) hbv
        · have hb' : B.testBit n = false := by simpa using hb
          rw [if_neg hb]
          refine ⟨by decide, fun c => absurd rfl c, fun _ => ⟨⟨by omega, by omega⟩, ⟨by omega, by omega⟩, ⟨by omega, by omega⟩, fun c2 => ih (n + 1) z least (by omega) (by omega) (a3.imp id (fun ⟨u, b1, b2⟩ => ⟨u, by omega, b2⟩)) (fun v hv hbv => ?_), fun c2 => ⟨⟨by omega, by omega⟩, ih (n + 1) n (C n) (by omega) (by omega) (Or.inr ⟨n, by omega, rfl, hb', by omega, rfl⟩) (fun v hv hbv => ?_)⟩⟩⟩
          · by_cases e : v = n
            · subst e; exact c2
            · exact a4 v (by omega) hbv
          · by_cases e : v = n
            · subst e; exact Int.le_refl _
            · have := a4 v (by omega) hbv; omega
  exact key f 0 (-1) 1000000 (by omega) (by omega) (Or.inl ⟨rfl, rfl⟩) (fun v hv => by omega)
theorem zDI_C {N : Nat} {jn : Nat → Nat → Nat → Prop} {w : Nat → Int} {inf : Int} {r k : Nat} {S : Nat → Bool} {C vi lb : Nat → Int} (H : zDI N jn w inf r k S C vi lb) (hk : k ≤ 60) (hinf : 6100 < inf) {v : Nat} (hv : v < N) : 0 ≤ C v ∧ C v ≤ inf := by
  have := H.2.1 v hv
  omega
theorem lg_c {f : Nat} {Φ : aj_M → Prop} {q : List Nat} {m : aj_M} {N L : Nat} {a b s e : Nat → Nat} {w : Nat → Int} (H : nC m q N L a b s e) (hw : ∀ l, l < L → 1 ≤ w l ∧ w l ≤ 99) (h6 : ∀ l, l < L → m (6 :: q) l = w l) {r : Nat} (hf : 300 ≤ f) (hK : ∀ (B : Int) (C V lb : Nat → Int), zDC N (zJ N L a b) w 1000000 r C V lb → (∀ k, rI (V k)) → Φ (nD m q B C V)) : ∀ (k n B : Nat) (C V lb : Nat → Int), n ≤ N → N - n < k → B < 2 ^ 60 → zDI N (zJ N L a b) w 1000000 r n B.testBit C V lb → (∀ k, rI (V k)) → hX5_lightFrom_31 f Φ k q n (nD m q B C V) := by
  have hN : N ≤ 60 := H.2.2.2.1
  have hL : L ≤ 144 := H.2.2.2.2.1
  have W := zjw_J (a := a) (b := b) hw (show 6100 < (1000000 : Int) by decide) hN
  obtain ⟨g0, g1, gN1, gN, gL, gE, g2, g8, g9⟩ := H
  obtain ⟨e1, e2, e3, e4, e5, e6⟩ := gE
  intro k
  induction k with
  | zero => intro n B C V lb h1 h2; omega
  | succ k ih =>
    intro n B C V lb h1 h2 hB HD HV
    have hCb : ∀ v, v < N → 0 ≤ C v ∧ C v ≤ 1000000 := fun v hv => zDI_C HD (by omega) (by decide) hv
    unfold hX5_lightFrom_31
    rw [nD_q, st_ne (by decide), g0]
    refine ⟨⟨by omega, by omega⟩, ⟨by omega, by omega⟩, fun c => hK _ C V lb (zDI_end W HD (fun v hv _ => zcnt_all N (by rw [HD.2.2.1]; omega) v hv)) HV, fun c => ?_⟩
    refine pX5_lightestUnseen (N := N) (B := B) (C := C) (by rw [nD_q, st_ne (by decide), g0]) hN (by rw [nD_q, st_at]) hB nD_11 hCb hf ?_ ?_
    · intro u hu hbu hCu hmin
      refine ⟨⟨by omega, by omega⟩, fun _ => ?_, fun c2 => by omega⟩
      rw [nD_q, st_at, zl_shl (by omega), zl_or (by omega) (by have : 2 ^ u < 2 ^ 60 := Nat.pow_lt_pow_right (by decide) (by omega)
                                                               omega)]
      rintro _ rfl
      rw [nD_w15]
      have h2u : 2 ^ u < 2 ^ 60 := Nat.pow_lt_pow_right (by decide) (by omega)
      have r8 : ∀ (B : Int) (C V : Nat → Int), nD m q B C V (8 :: q) = m (8 :: q) := fun B C V => nD_off (by simp) (by simp) (by simp)
      have r9 : ∀ (B : Int) (C V : Nat → Int), nD m q B C V (9 :: q) = m (9 :: q) := fun B C V => nD_off (by simp) (by simp) (by simp)
      have r6 : ∀ (B : Int) (C V : Nat → Int), nD m q B C V (6 :: q) = m (6 :: q) := fun B C V => nD_off (by simp) (by simp) (by simp)
      rw [r8, Int.toNat_natCast, g8 u (by omega)]
      refine ⟨⟨by omega, by omega⟩, ?_⟩
      have hs := e2 u hu
      have inner : ∀ (k' i : Nat) (C V lb : Nat → Int), s u ≤ i → i ≤ s (u + 1) → s (u + 1) - i < k' → zDJ N (zJ N L a b) w 1000000 r n B.testBit u (fun l => ∃ j, s u ≤ j ∧ j < i ∧ e j = l) C V lb → (∀ k, rI (V k)) → hX5_lightFrom_69 f Φ (fun q0 v2 m => hX5_lightFrom_31 f Φ k q0 v2 m) k' q n u i (nD m q ((B ||| 2 ^ u : Nat) : Int) C V) := by
        intro k'
        induction k' with
        | zero => intro i C V lb a1 a2 a3; omega
        | succ k' ih' =>
          intro i C V lb a1 a2 a3 J HV
          have hCu : 0 ≤ C u ∧ C u ≤ 99 * n := ⟨(J.2.1 u hu).1, J.2.2.1.2.2.2.2⟩
          unfold hX5_lightFrom_69
          rw [r8, r9, zt1, g8 (u + 1) (by omega), Int.toNat_natCast, Int.toNat_natCast]
          refine ⟨⟨by omega, by omega⟩, ⟨by omega, by omega⟩, ⟨by omega, by omega⟩, fun c3 => ?_, fun c3 => ⟨⟨by omega, by omega⟩, ?_⟩⟩
          · have HE := zDJ_end W J (fun l v hj => by
              obtain ⟨j, j1, j2, j3⟩ := e4 l u v hj
              exact ⟨j, j1, by omega, j3⟩)
            have eS : (fun v => B.testBit v || decide (v = u)) = (B ||| 2 ^ u).testBit := by
              funext v
              rw [zt_or]
              by_cases hvu : v = u
              · subst hvu; simp
              · simp [hvu, Ne.symm hvu]
            rw [eS] at HE
            exact ih (n + 1) (B ||| 2 ^ u) C V lb (by omega) (by omega) (Nat.or_lt_two_pow hB h2u) HE HV
          · rw [g9 u i hu a1 (by omega)]
            have hei := e3 u i hu a1 (by omega)
            refine pX5_otherEnd gL gN (m := nD m q ((B ||| 2 ^ u : Nat) : Int) C V) (fun l hl => by rw [nD_off (by simp) (by simp) (by simp), nD_off (by simp) (by simp) (by simp)]; exact g2 l hl) e1 hei.1 hei.2 ?_
            intro v hjn
            have hvN := hjn.2.2.1
            have hwl := hw _ hei.1
            have hCv := J.2.1 v hvN
            simp only [nD_11, r6, Int.toNat_natCast, h6 _ hei.1]
            have hvC : C v ≤ 1000000 := by rcases hCv.2 with h | h <;> omega
            refine ⟨⟨by omega, by omega⟩, ⟨by omega, by omega⟩, ⟨by omega, by omega⟩, ⟨by omega, by omega⟩, ⟨by omega, by omega⟩, fun c4 => ?_, fun c4 => ⟨⟨by omega, by omega⟩, ⟨by omega, by omega⟩, ⟨by omega, by omega⟩, ?_⟩⟩
            · refine ih' (i + 1) C V lb (by omega) (by omega) (by omega) (zDJ_skip J (fun l x hl hj => ?_)) HV
              obtain ⟨j, j1, j2, j3⟩ := hl
              by_cases ej : j = i
              · subst ej
                right
                rw [← j3] at hj ⊢
                rw [zJ_other hj hjn]; exact c4
              · exact Or.inl ⟨j, j1, by omega, j3⟩
            · obtain ⟨p1, p2⟩ := zDJ_upd W J (D' := fun l => ∃ j, s u ≤ j ∧ j < i + 1 ∧ e j = l) hjn (by omega) (fun l' v' hl' hj' => by
                obtain ⟨j, j1, j2, j3⟩ := hl'
                by_cases ej : j = i
                · subst ej
                  right
                  rw [← j3] at hj'
                  exact ⟨zJ_other hj' hjn, j3.symm⟩
                · exact Or.inl ⟨j, j1, by omega, j3⟩)
              rintro _ rfl
              rw [nD_w11]
              refine ⟨⟨by omega, by omega⟩, ?_⟩
              rintro _ rfl
              rw [nD_w12]
              exact ih' (i + 1) _ _ _ (by omega) (by omega) (by omega) p2 (zrI_st HV ⟨by omega, by omega⟩)
      exact inner f (s u) C V lb (Nat.le_refl _) hs.1 (by omega) (zDJ_skip (zDJ_pick W HD hu hbu hCu hmin) (fun l v hl => by obtain ⟨j, j1, j2, _⟩ := hl; omega)) HV
    · intro hall
      exact ⟨by decide, fun c2 => absurd c2 (by decide), fun _ => hK _ C V lb (zDI_end W HD hall) HV⟩
theorem pX5_lightFrom {f : Nat} {Φ : aj_M → Prop} {q : List Nat} {m : aj_M} {N L : Nat} {a b s e : Nat → Nat} {w : Nat → Int} (H : nC m q N L a b s e) (hw : ∀ l, l < L → 1 ≤ w l ∧ w l ≤ 99) (h6 : ∀ l, l < L → m (6 :: q) l = w l) {r : Nat} (hr : r < N) (hf : 300 ≤ f) (hvi : ∀ k, rI (m (12 :: q) k)) (hK : ∀ (B : Int) (C V lb : Nat → Int), zDC N (zJ N L a b) w 1000000 r C V lb → (∀ k, rI (V k)) → Φ (nD m q B C V)) : wX5_lightFrom f Φ q r m := by
  have hN : N ≤ 60 := H.2.2.2.1
  have W := zjw_J (a := a) (b := b) hw (show 6100 < (1000000 : Int) by decide) hN
  unfold wX5_lightFrom
  refine pJ7_fill (by omega) (by decide) ?_
  refine pJ7_fill (by omega) (by decide) ?_
  rintro _ rfl
  refine ⟨⟨by omega, by omega⟩, ?_⟩
  rintro _ rfl
  have e0 : aj_u (aj_u (aj_ur (aj_ur m (11 :: q) (fun k => if k < 60 then 1000000 else m (11 :: q) k)) (12 :: q) (fun k => if k < 60 then -1 else aj_ur m (11 :: q) (fun k => if k < 60 then 1000000 else m (11 :: q) k) (12 :: q) k)) q 15 0) (11 :: q) (r : Int).toNat 0 = nD m q ((0 : Nat) : Int) (st (fun k => if k < 60 then 1000000 else m (11 :: q) k) r 0) (fun k => if k < 60 then -1 else m (12 :: q) k) := by
    rw [zr_ur, if_neg (by simp), Int.toNat_natCast]
    unfold nD
    rw [zu_push, if_neg (by simp), zu_push, if_neg (by simp), zu_push, if_neg (by simp), zu_same, zu_base]
    rfl
  rw [e0]
  refine lg_c H hw h6 hf hK f 0 0 _ _ (fun _ => -1) (by omega) (by omega) (by decide) ?_ (fun k => ?_)
  · rw [z0bit]
    refine zDI_first W hr (fun v hv => ?_) ?_
    · simp only [st]
      by_cases e' : v = r
      · rw [if_pos e', if_pos e']
      · rw [if_neg e', if_neg e', if_pos (by omega)]
    · show (if r < 60 then (-1 : Int) else _) = -1
      rw [if_pos (by omega)]
  · show rI (if k < 60 then -1 else m (12 :: q) k)
    split
    · decide
    · exact hvi k
def zSd (N L : Nat) (a b : Nat → Nat) (w : Nat → Int) (best : Int) : Prop := best = 1000000 ∨ ∃ l y, l < L ∧ zDl N L a b w l y ∧ y ≤ best
theorem pX5_lightestRing {f : Nat} {Φ : Int → aj_M → Prop} {q : List Nat} {m : aj_M} {N L : Nat} {a b s e : Nat → Nat} {w : Nat → Int} (H : nC m q N L a b s e) (hw : ∀ l, l < L → 1 ≤ w l ∧ w l ≤ 99) (h6 : ∀ l, l < L → m (6 :: q) l = w l) (hf : 300 ≤ f) (hvi : ∀ k, rI (m (12 :: q) k)) (hK : ∀ (z z' : Int) (m' : aj_M), zLt N L a b w z' → (z = 1000000 ∧ z' = -1 ∨ z < 1000000 ∧ 0 ≤ z ∧ z' = z) → zN q m m' → m' (6 :: q) = m (6 :: q) → Φ z m') : wX5_lightestRing f Φ q m := by
  have hN : N ≤ 60 := H.2.2.2.1
  have hL : L ≤ 144 := H.2.2.2.2.1
  have hab := H.2.2.2.2.2.1.1
  unfold wX5_lightestRing
  have key : ∀ (k n : Nat) (best : Int) (m1 : aj_M), n ≤ N → N - n < k → 1 ≤ best → best ≤ 1000000 → zSd N L a b w best → (∀ l y, l < L → a l < n → zDl N L a b w l y → best ≤ y) → zN q m m1 → m1 (6 :: q) = m (6 :: q) → hX5_lightestRing_5 f Φ k q best n m1 := by
    intro k
    induction k with
    | zero => intro n best m1 h1 h2; omega
    | succ k ih =>
      intro n best m1 h1 h2 hb1 hb2 hso hco hz h6m
      have Hm := zN_nC hz H
      unfold hX5_lightestRing_5
      rw [Hm.1]
      refine ⟨⟨by omega, by omega⟩, ⟨by omega, by omega⟩, fun c => ?_, fun c => ?_⟩
      · have e' : n = N := by omega
        subst e'
        rcases hso with h | ⟨l, y, hl, hy, hyb⟩
        · refine hK best (-1) _ (Or.inl ⟨rfl, fun l hl y hy => ?_⟩) (Or.inl ⟨h, rfl⟩) hz h6m
          have := hco l y hl (hab l hl).1 hy
          have := zDl_b hw hab hl hy
          omega
        · have h3 := hco l y hl (hab l hl).1 hy
          have h4 := zDl_b hw hab hl hy
          have e'' : y = best := by omega
          subst e''
          exact hK y y _ (Or.inr ⟨l, hl, hy, fun l' y' hl' hy' => hco l' y' hl' (hab l' hl').1 hy'⟩) (Or.inr ⟨by omega, by omega, rfl⟩) hz h6m
      · refine pX5_lightFrom Hm hw (fun l hl => by rw [h6m]; exact h6 l hl) (by omega) hf (hz.2.2 hvi) ?_
        intro B C V lb HC HV
        have hz2 : zN q m (nD m1 q B C V) := zN_tr hz (nD_N HV)
        have h6m2 : nD m1 q B C V (6 :: q) = m (6 :: q) := by rw [nD_off (by simp) (by simp) (by simp)]; exact h6m
        have Hm2 := zN_nC hz2 H
        have lp : ∀ (k' l : Nat) (best' : Int), l ≤ L → L - l < k' → 1 ≤ best' → best' ≤ best → zSd N L a b w best' → (∀ j, j < l → zOff a b 1000000 C V j → best' ≤ C (a j) + C (b j) + w j) → hX5_lightestRing_20 f Φ (fun q0 v1 v2 m => hX5_lightestRing_5 f Φ k q0 v1 v2 m) k' q best' n l (nD m1 q B C V) := by
          intro k'
          induction k' with
          | zero => intro l best' a1 a2; omega
          | succ k' ih' =>
            intro l best' a1 a2 a3 a4 a5 a6
            unfold hX5_lightestRing_20
            rw [Hm2.2.1]
            refine ⟨⟨by omega, by omega⟩, ⟨by omega, by omega⟩, fun c2 => ?_, fun c2 => ?_⟩
            · refine ih (n + 1) best' _ (by omega) (by omega) a3 (by omega) a5 (fun l' y hl' han hy => ?_) hz2 h6m2
              by_cases en : a l' = n
              · rw [← en] at HC
                obtain ⟨l2, o1, o2, o3⟩ := zLtA hw hab hN hl' (by decide) HC hy
                have := a6 l2 (by omega) o2
                omega
              · have := hco l' y hl' (by omega) hy
                omega
            · have hl : l < L := by omega
              have hN' := hab l hl
              have h2' := Hm2.2.2.2.2.2.2.1 l hl
              have hwl := hw l hl
              have ca := HC.2.1 (a l) hN'.1
              have cb := HC.2.1 (b l) hN'.2
              rw [Int.toNat_natCast, h2'.1, h2'.2, Int.toNat_natCast, Int.toNat_natCast, nD_12, nD_11, h6m2, h6 l hl]
              have skip : ¬ zOff a b 1000000 C V l → hX5_lightestRing_20 f Φ (fun q0 v1 v2 m => hX5_lightestRing_5 f Φ k q0 v1 v2 m) k' q best' n ((l : Int) + 1) (nD m1 q B C V) := by
                intro hno
                refine ih' (l + 1) best' (by omega) (by omega) a3 a4 a5 (fun j hj hoj => ?_)
                by_cases ej : j = l
                · subst ej; exact absurd hoj hno
                · exact a6 j (by omega) hoj
              refine ⟨⟨by omega, by omega⟩, ⟨by omega, by omega⟩, ⟨by omega, by omega⟩, HV _, ⟨by omega, by omega⟩, fun c3 => skip (fun ho => ho.1 c3), fun c3 => ⟨⟨by omega, by omega⟩, HV _, ⟨by omega, by omega⟩, fun c4 => skip (fun ho => ho.2.1 c4), fun c4 => ⟨⟨by omega, by omega⟩, ⟨by omega, by omega⟩, ⟨by omega, by omega⟩, ⟨by omega, by omega⟩, ⟨by omega, by omega⟩, ?_⟩⟩⟩
              refine ih' (l + 1) _ (by omega) (by omega) (by omega) (by omega) ?_ (fun j hj hoj => ?_)
              · rcases (by omega : best' ≤ C (a l) + C (b l) + w l ∨ C (a l) + C (b l) + w l < best') with h | h
                · rw [show min best' (C (a l) + C (b l) + w l) = best' by omega]; exact a5
                · rw [show min best' (C (a l) + C (b l) + w l) = C (a l) + C (b l) + w l by omega]
                  obtain ⟨y, hy1, hy2⟩ := zLtB hw hab hN hl (by decide) HC ⟨c3, c4, by omega, by omega⟩
                  exact Or.inr ⟨l, y, hl, hy1, hy2⟩
              · by_cases ej : j = l
                · subst ej; omega
                · have := a6 j (by omega) hoj; omega
        exact lp f 0 best (by omega) (by omega) hb1 (Int.le_refl _) hso (fun j hj => by omega)
  exact key f 0 1000000 m (by omega) (by omega) (by omega) (by omega) (Or.inl rfl) (fun l y _ h => by omega) zN_refl rfl
theorem pX5_weighLinks {f : Nat} {Φ : aj_M → Prop} {q : List Nat} {m : aj_M} {A : Nat → Int} {s e : Nat → Nat} (hq : q = [3, 8, 0]) (hA : wA A) (hP : wP m [1, 0] A) (H : nC m q (zNn A) (zLk A).length (zFa A) (zFb A) s e) (h45 : zRw2 (zLk A) (m (4 :: q)) (m (5 :: q))) (h7 : m q 7 = 0 ∨ (m q 7 = 1 ∧ ∀ l, l < (zLk A).length → m (6 :: q) l = zWt A (zFr A l) (zFx A l) (A 62))) (hf : 1000 ≤ f) (hK : ∀ m' : aj_M, (∀ l, l < (zLk A).length → m' (6 :: q) l = zWt A (zFr A l) (zFx A l) (A 62)) → m' q 7 = 1 → (∀ j, j ≠ 7 → m' q j = m q j) → (∀ r, r ∉ ([q, 6 :: q, [6, 1, 1, 0]] : List (List Nat)) → m' r = m r) → Φ m') : wX5_weighLinks f Φ q [1, 0] (A 62) m := by
  have hL : (zLk A).length ≤ 144 := H.2.2.2.2.1
  have h4 := gOK_n hA.1
  unfold wX5_weighLinks
  rcases h7 with h7 | ⟨h7, h7'⟩
  · rw [h7]
    refine ⟨by decide, fun _ => ?_, fun c => absurd rfl c⟩
    refine zfor (H := fun k l σ => hX5_weighLinks_10 f Φ k q [1, 0] (A 62) l σ) (N := (zLk A).length) (fun l σ => ∃ g S : Nat → Int, σ = aj_ur (aj_ur m (6 :: q) g) [6, 1, 1, 0] S ∧ ∀ j, j < l → g j = zWt A (zFr A j) (zFx A j) (A 62)) ?_ f 0 m (by omega) (by omega) ⟨m (6 :: q), m [6, 1, 1, 0], ?_, fun j hj => by omega⟩
    · rintro k l σ hl ⟨g, S, rfl, hg⟩ hn
      have rr : ∀ (g S : Nat → Int) (r : List Nat), r ≠ 6 :: q → r ≠ [6, 1, 1, 0] → aj_ur (aj_ur m (6 :: q) g) [6, 1, 1, 0] S r = m r := fun g S r h1 h2 => by rw [zr_ur, if_neg h2, zr_ur, if_neg h1]
      have hq6 : q ≠ [6, 1, 1, 0] := by rw [hq]; decide
      unfold hX5_weighLinks_10
      rw [rr g S q (by simp) hq6, H.2.1]
      refine ⟨⟨by omega, by omega⟩, ⟨by omega, by omega⟩, fun c => ?_, fun c => ⟨⟨by omega, by omega⟩, ⟨by omega, by omega⟩, ?_⟩⟩
      · rintro _ rfl
        refine hK _ (fun j hj => ?_) ?_ (fun j hj => ?_) (fun r hr => ?_)
        · rw [aj_u_off (by simp), zr_ur, if_neg (by rw [hq]; decide), zr_ur, if_pos rfl]; exact hg j (by omega)
        · rw [aj_u_at, if_pos rfl]
        · rw [aj_u_at, if_neg hj, rr g S q (by simp) hq6]
        · simp only [List.mem_cons, List.not_mem_nil, or_false, not_or] at hr
          rw [aj_u_off hr.1, rr g S r hr.2.1 hr.2.2]
      · have hl' : l < (zLk A).length := by omega
        have hb := zLk_b hA hl'
        have hr : m (4 :: q) l = (zFr A l : Nat) ∧ m (5 :: q) l = (zFx A l : Nat) := h45 l _ (zLk_at hl')
        rw [rr g S (4 :: q) (by simp) (by rw [hq]; decide), rr g S (5 :: q) (by simp) (by rw [hq]; decide), Int.toNat_natCast, hr.1, hr.2]
        have hPm : wP (aj_ur (aj_ur m (6 :: q) g) [6, 1, 1, 0] S) [1, 0] A := by
          subst hq
          exact wP_of hP (fun j _ => by rw [rr g S _ (by decide) (by decide)]) (rr g S _ (by decide) (by decide)) (rr g S _ (by decide) (by decide)) (rr g S _ (by decide) (by decide)) (rr g S _ (by decide) (by decide)) (rr g S _ (by decide) (by decide)) (rr g S _ (by decide) (by decide)) (rr g S _ (by decide) (by decide)) (rr g S _ (by decide) (by decide))
        refine pX6_weightOf hA hPm hb.2.2.1 ⟨by omega, by omega⟩ hA.2.2.2.2.2.1 hf (fun S' => ⟨⟨by omega, by omega⟩, ?_⟩)
        rintro _ rfl
        have e1 : aj_u (aj_ur (aj_ur (aj_ur m (6 :: q) g) [6, 1, 1, 0] S) [6, 1, 1, 0] S') (6 :: q) l (zWt A (zFr A l) (zFx A l) (A 62)) = aj_ur (aj_ur m (6 :: q) (st g l (zWt A (zFr A l) (zFx A l) (A 62)))) [6, 1, 1, 0] S' := by
          rw [zm_ur_ur, zu_push, if_neg (by rw [hq]; decide), zu_same]
        rw [e1]
        refine hn (by omega) _ ⟨_, _, rfl, fun j hj => ?_⟩
        by_cases ej : j = l
        · subst ej; rw [st_at]
        · rw [st_ne ej]; exact hg j (by omega)
    · rw [zm_ur_self, zm_ur_id]
      intro k; rfl
  · rw [h7]
    exact ⟨by decide, fun c => absurd c (by decide), fun _ => hK m h7' h7 (fun _ _ => rfl) (fun _ _ => rfl)⟩
