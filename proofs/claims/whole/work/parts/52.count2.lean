/-- the closings of s -/
def zCl (J : Nat → Nat → Int) (N s x : Nat) : Int := zs N (fun z => if s < z then J z x * J z s else 0)
theorem pX8_knowClosings {f : Nat} {Φ : aj_M → Prop} {m : aj_M} {N : Nat} {J : Nat → Nat → Int} {G4 G5 G6 : Nat → Int} (hN : N ≤ 60) (hJs : ∀ u v, J u v = J v u) (h4 : m [4, 8, 0] = G4) (h5 : m [5, 8, 0] = G5) (h6 : m [6, 8, 0] = G6) (H : zNJ N J G4 G5 G6) {s : Nat} (hs : s < N) (hf : 300 ≤ f) (hK : ∀ G7 : Nat → Int, (∀ x, x < N → G7 x = zCl J N s x) → Φ (aj_ur m [7, 8, 0] G7)) : wX8_knowClosings f Φ [8, 0] s m := by
  obtain ⟨h1, h2, h3⟩ := H
  obtain ⟨n, n1, n2, n3, n4⟩ := h3 s hs
  have r4 : ∀ g : Nat → Int, aj_ur m [7, 8, 0] g (4 :: [8, 0]) = G4 := fun g => by rw [zr_ur, if_neg (by decide)]; exact h4
  have r5 : ∀ g : Nat → Int, aj_ur m [7, 8, 0] g (5 :: [8, 0]) = G5 := fun g => by rw [zr_ur, if_neg (by decide)]; exact h5
  have r6 : ∀ g : Nat → Int, aj_ur m [7, 8, 0] g (6 :: [8, 0]) = G6 := fun g => by rw [zr_ur, if_neg (by decide)]; exact h6
  have r7 : ∀ g : Nat → Int, aj_ur m [7, 8, 0] g (7 :: [8, 0]) = g := fun g => by rw [zr_ur, if_pos rfl]
  unfold wX8_knowClosings
  refine pJ7_fill (by omega) (by decide) ?_
  refine zfor (H := fun k i σ => hX8_knowClosings_10 f Φ k [8, 0] s i σ) (N := n) (fun i σ => ∃ G7 : Nat → Int, σ = aj_ur m [7, 8, 0] G7 ∧ ∀ x, x < N → G7 x = zs i (fun i' => if s < (G5 (60 * s + i')).toNat then J (G5 (60 * s + i')).toNat x * J (G5 (60 * s + i')).toNat s else 0)) ?_ f 0 _ (by omega) (by omega) ⟨_, rfl, fun x hx => by show (if x < 60 then (0 : Int) else _) = 0; rw [if_pos (by omega)]⟩
  rintro k i σ hi ⟨G7, rfl, hG7⟩ hn
  unfold hX8_knowClosings_10
  rw [r6, r5, Int.toNat_natCast, n1]
  refine ⟨⟨by omega, by omega⟩, ⟨by omega, by omega⟩, ⟨by omega, by omega⟩, fun c => ?_, fun c => ?_⟩
  · have ei : i = n := by omega
    subst ei
    refine hK G7 (fun x hx => ?_)
    rw [hG7 x hx, n4 (fun z => if s < z then J z x * J z s else 0)]
    refine zs_ext (fun z _ => ?_)
    by_cases hz : J s z = 0
    · rw [if_neg (by simpa using hz), show J z s = 0 by rw [hJs]; exact hz]
      split
      · rw [Int.mul_zero]
      · rfl
    · rw [if_pos hz]
  · have hz3 := n3 i (by omega)
    have et : ((s : Int) * 60 + (i : Int)).toNat = 60 * s + i := by omega
    rw [et]
    obtain ⟨z, hz⟩ : ∃ z : Nat, G5 (60 * s + i) = z := ⟨(G5 (60 * s + i)).toNat, by omega⟩
    rw [hz] at hz3 ⊢
    have hzt : (G5 (60 * s + i)).toNat = z := by rw [hz]; rfl
    refine ⟨⟨by omega, by omega⟩, ⟨by omega, by omega⟩, ⟨by omega, by omega⟩, fun c2 => hn (by omega) _ ⟨G7, rfl, fun x hx => ?_⟩, fun c2 => ?_⟩
    · simp only [zs]
      rw [← hG7 x hx, hzt, if_neg (by omega)]; omega
    · obtain ⟨n', a1, a2, a3, a4⟩ := h3 z (by omega)
      refine zfor (H := fun kk j σ => hX8_knowClosings_40 f Φ (fun q0 v1 v2 m => hX8_knowClosings_10 f Φ k q0 v1 v2 m) kk [8, 0] s i z j σ) (N := n') (fun j σ => ∃ G7' : Nat → Int, σ = aj_ur m [7, 8, 0] G7' ∧ ∀ x, x < N → G7' x = G7 x + zs j (fun j' => if (G5 (60 * z + j')).toNat = x then J z x * J z s else 0)) ?_ f 0 _ (by omega) (by omega) ⟨G7, rfl, fun x hx => by show G7 x = G7 x + 0; omega⟩
      rintro kk j σ' hj ⟨G7', rfl, hG7'⟩ hnj
      unfold hX8_knowClosings_40
      rw [r6, r5, r4, r7, Int.toNat_natCast, a1]
      refine ⟨⟨by omega, by omega⟩, ⟨by omega, by omega⟩, ⟨by omega, by omega⟩, fun c3 => ?_, fun c3 => ?_⟩
      · have ej : j = n' := by omega
        subst ej
        refine hn (by omega) _ ⟨G7', rfl, fun x hx => ?_⟩
        simp only [zs]
        rw [← hG7 x hx, hzt, if_pos (by omega), hG7' x hx]
        congr 1
        rw [a4 (fun v => if v = x then J z x * J z s else 0), zs_one hx (fun v _ hne => by rw [if_neg hne]; split <;> rfl), if_pos rfl]
        split
        · rfl
        · next h => rw [show J z x = 0 by simpa using h, Int.zero_mul]
      · have a3j := a3 j (by omega)
        have et2 : ((z : Int) * 60 + (j : Int)).toNat = 60 * z + j := by omega
        rw [et2]
        obtain ⟨y, hy⟩ : ∃ y : Nat, G5 (60 * z + j) = y := ⟨(G5 (60 * z + j)).toNat, by omega⟩
        rw [hy] at a3j ⊢
        have hyt : (G5 (60 * z + j)).toNat = y := by rw [hy]; rfl
        have et3 : ((z : Int) * 60 + (y : Int)).toNat = 60 * z + y := by omega
        have et4 : ((z : Int) * 60 + (s : Int)).toNat = 60 * z + s := by omega
        rw [et3, et4, h1 z y (by omega) (by omega), h1 z s (by omega) (by omega), Int.toNat_natCast]
        refine ⟨⟨by omega, by omega⟩, ⟨by omega, by omega⟩, ⟨by omega, by omega⟩, ⟨by omega, by omega⟩, ⟨by omega, by omega⟩, ?_⟩
        rintro _ rfl
        refine hnj (by omega) _ ⟨_, zu_same, fun x hx => ?_⟩
        simp only [zs]
        rw [hyt]
        by_cases ex : y = x
        · subst ex
          rw [st_at, if_pos rfl, hG7' y hx]; omega
        · rw [st_ne (Ne.symm ex), if_neg ex, hG7' x hx]; omega
/-- those that aren't in a list -/
theorem zs_list {N s : Nat} {F : Nat → Int} : ∀ (p : List Nat), p.Nodup → (∀ x, x ∈ p → s < x ∧ x < N) → zs N (fun z => if s < z then F z else 0) = zs N (fun z => if s < z ∧ z ∉ p then F z else 0) + (p.map F).foldr (· + ·) 0
  | [], _, _ => by
    show _ = _ + 0
    rw [Int.add_zero]
    exact zs_ext (fun z _ => by simp)
  | x :: p, hn, hp => by
    have h1 := List.nodup_cons.mp hn
    rw [zs_list p h1.2 (fun y hy => hp y (List.mem_cons_of_mem _ hy))]
    have hx := hp x List.mem_cons_self
    show _ = _ + (F x + (p.map F).foldr (· + ·) 0)
    rw [zs_split (n := N) (x := x) (F := fun z => if s < z ∧ z ∉ p then F z else 0) hx.2, if_pos ⟨hx.1, h1.1⟩]
    rw [zs_ext (F := fun v => if v = x then 0 else if s < v ∧ v ∉ p then F v else 0) (G := fun z => if s < z ∧ z ∉ x :: p then F z else 0) (fun z _ => ?_)]
    · omega
    · by_cases e : z = x
      · subst e; simp
      · simp [e]
def cW (m : aj_M) (B : Int) (R : Nat → Int) : aj_M := aj_ur (aj_ur m [8, 0] (st (m [8, 0]) 9 B)) [8, 8, 0] R
theorem cW_off {m : aj_M} {r : List Nat} {B : Int} {R : Nat → Int} (h0 : r ≠ [8, 0]) (h8 : r ≠ [8, 8, 0]) : cW m B R r = m r := by simp [cW, zr_ur, h0, h8]
theorem cW_q {m : aj_M} {B : Int} {R : Nat → Int} : cW m B R [8, 0] = st (m [8, 0]) 9 B := by simp [cW, zr_ur]
theorem cW_8 {m : aj_M} {B : Int} {R : Nat → Int} : cW m B R [8, 8, 0] = R := by simp [cW, zr_ur]
theorem cW_w9 {m : aj_M} {B x : Int} {R : Nat → Int} : aj_u (cW m B R) [8, 0] 9 x = cW m x R := by
  have e : st (st (m [8, 0]) 9 B) 9 x = st (m [8, 0]) 9 x := by
    funext k
    simp only [st]
    split <;> rfl
  simp [cW, zu_push, e]
theorem cW_w8 {m : aj_M} {B x : Int} {R : Nat → Int} {j : Nat} : aj_u (cW m B R) [8, 8, 0] j x = cW m B (st R j x) := by simp [cW, zu_push]
theorem zDD_iff {s : Nat} {p : List Nat} {v : Nat} (h : zDD s p = true) : zDD s (p ++ [v]) = true ↔ s < v ∧ v ∉ p := by
  have h1 : p.Nodup ∧ ∀ x, x ∈ p → s < x := of_decide_eq_true h
  unfold zDD
  rw [decide_eq_true_eq, List.nodup_append]
  constructor
  · rintro ⟨⟨_, _, h4⟩, h5⟩
    exact ⟨h5 v (by simp), fun hv => h4 v hv v (by simp) rfl⟩
  · rintro ⟨h2, h3⟩
    refine ⟨⟨h1.1, by simp, fun x hx y hy e => ?_⟩, fun x hx => ?_⟩
    · rw [List.mem_singleton] at hy
      subst hy
      subst e
      exact h3 hx
    · rw [List.mem_append, List.mem_singleton] at hx
      rcases hx with h | h
      · exact h1.2 x h
      · rw [h]; exact h2
/-- the line and the bits of what is used -/
def zLn (R : Nat → Int) (s : Nat) (p : List Nat) : Prop := R 0 = s ∧ ∀ i v, p[i]? = some v → R (i + 1) = (v : Nat)
theorem ww_go {f : Nat} {m : aj_M} {N : Nat} {J : Nat → Nat → Int} {G4 G5 G6 G7 : Nat → Int} (hN : N ≤ 60) (hJs : ∀ u v, J u v = J v u) (hJ0 : ∀ u, J u u = 0) (h4 : m [4, 8, 0] = G4) (h5 : m [5, 8, 0] = G5) (h6 : m [6, 8, 0] = G6) (h7 : m [7, 8, 0] = G7) (H : zNJ N J G4 G5 G6) {s : Nat} (hs : s < N) (hG7 : ∀ x, x < N → G7 x = zCl J N s x) {k : Nat} (hk : 2 ≤ k ∧ k ≤ 5) (hb : ∀ p : List Nat, (∀ x, x ∈ p → x < N) → 0 ≤ zHc J N s 1 p ∧ zHc J N s 1 p ≤ 1000000) (hf : 300 ≤ f) : ∀ (d : Nat) (p : List Nat) (Φ : Int → aj_M → Prop) (B : Nat) (R : Nat → Int), k - p.length < d → p.length + 1 ≤ k → zDD s p = true → (∀ x, x ∈ p → x < N) → zLn R s p → B < 2 ^ 60 → (∀ v, v < N → (B.testBit v = true ↔ (p ≠ [] ∧ v = s) ∨ v ∈ p.dropLast)) → (∀ R' : Nat → Int, zLn R' s p → Φ (zHc J N s (k - p.length) p) (cW m B R')) → rG1 f d 0 Φ [8, 0] ((p.getLastD s : Nat) : Int) p.length ((k : Int) + 1) (cW m B R) := by
  obtain ⟨h1, h2, h3⟩ := H
  have r4 : ∀ (B : Int) (R : Nat → Int), cW m B R (4 :: [8, 0]) = G4 := fun B R => by rw [cW_off (by decide) (by decide)]; exact h4
  have r5 : ∀ (B : Int) (R : Nat → Int), cW m B R (5 :: [8, 0]) = G5 := fun B R => by rw [cW_off (by decide) (by decide)]; exact h5
  have r6 : ∀ (B : Int) (R : Nat → Int), cW m B R (6 :: [8, 0]) = G6 := fun B R => by rw [cW_off (by decide) (by decide)]; exact h6
  have r7 : ∀ (B : Int) (R : Nat → Int), cW m B R (7 :: [8, 0]) = G7 := fun B R => by rw [cW_off (by decide) (by decide)]; exact h7
  have r8 : ∀ (B : Int) (R : Nat → Int), cW m B R (8 :: [8, 0]) = R := fun B R => cW_8
  intro d
  induction d with
  | zero => intro p Φ B R a1; omega
  | succ d ih =>
    intro p Φ B R a1 a2 hD hpN hLn hB hBv hK
    have hDp : p.Nodup ∧ ∀ x, x ∈ p → s < x := of_decide_eq_true hD
    have hat : p.getLastD s < N := by
      rw [List.getLastD_eq_getLast?]
      cases h : p.getLast? with
      | none => exact hs
      | some z => exact hpN z (List.mem_of_getLast? h)
    generalize hatd : p.getLastD s = at' at *
    show (if (0 : Nat) = 0 then wbX8_waysOn f Φ (rG1 f d) [8, 0] at' p.length ((k : Int) + 1) (cW m B R) else False)
    rw [if_pos rfl]
    unfold wbX8_waysOn
    refine ⟨⟨by omega, by omega⟩, ⟨by omega, by omega⟩, fun c => ?_, fun c => ⟨⟨by omega, by omega⟩, by decide, fun _ => ?_, fun c2 => by omega⟩⟩
    · -- the last step is closed
      have hpl : p.length + 1 = k := by omega
      have ek : k - p.length = 1 := by omega
      rw [ek] at hK
      unfold wX8_waysToClose
      rw [r7, Int.toNat_natCast, hG7 at' hat]
      have hne : p ≠ [] := by intro e; rw [e] at hpl; simp at hpl; omega
      obtain ⟨q, hq⟩ : ∃ q, p = q ++ [at'] := by
        refine ⟨p.dropLast, ?_⟩
        have e1 : p.getLast hne = at' := by
          rw [← hatd, List.getLastD_eq_getLast?, List.getLast?_eq_some_getLast hne]; rfl
        rw [← e1]
        exact (List.dropLast_concat_getLast hne).symm
      -- the value
      have hval : zCl J N s at' - (q.map (fun z => J at' z * J z s)).foldr (· + ·) 0 = zHc J N s 1 p := by
        have e1 : zCl J N s at' = zs N (fun z => if s < z then (fun z => J at' z * J z s) z else 0) := zs_ext (fun z _ => by
          show (if s < z then J z at' * J z s else 0) = (if s < z then J at' z * J z s else 0)
          rw [hJs z at'])
        have e2 := zs_list (N := N) (s := s) (F := fun z => J at' z * J z s) p hDp.1 (fun x hx => ⟨hDp.2 x hx, hpN x hx⟩)
        have e3 : (p.map (fun z => J at' z * J z s)).foldr (· + ·) 0 = (q.map (fun z => J at' z * J z s)).foldr (· + ·) 0 := by
          rw [hq, List.map_append, List.foldr_append]
          simp [hJ0]
        have e4 : zHc J N s 1 p = zs N (fun z => if s < z ∧ z ∉ p then J at' z * J z s else 0) := by
          rw [zHc_step]
          refine zs_ext (fun z _ => ?_)
          have e5 : zHc J N s 0 (p ++ [z]) = if zDD s (p ++ [z]) then J z s else 0 := by
            show (if zDD s (p ++ [z] ++ []) then zpp J ((p ++ [z]).getLastD s) [] s else 0) = _
            rw [List.append_nil, zlastD]; rfl
          by_cases hz : zDD s (p ++ [z]) = true
          · rw [if_pos hz, if_pos ((zDD_iff hD).mp hz), e5, if_pos hz, hatd]
          · rw [if_neg hz, if_neg (fun h => hz ((zDD_iff hD).mpr h))]
        rw [e1, e2, e3, e4]; omega
      have hbb := hb p hpN
      refine ⟨⟨by omega, by omega⟩, ?_⟩
      have hql : q.length + 1 = p.length := by rw [hq]; simp
      have key : ∀ (kk i : Nat) (v3 : Int), 1 ≤ i → i ≤ p.length → p.length - i < kk → v3 = zCl J N s at' - ((q.take (i - 1)).map (fun z => J at' z * J z s)).foldr (· + ·) 0 → hX8_waysToClose_10 f (fun z1 m1 => Φ z1 m1) kk [8, 0] at' p.length v3 i (cW m B R) := by
        intro kk
        induction kk with
        | zero => intro i v3 b1 b2 b3; omega
        | succ kk ihk =>
          intro i v3 b1 b2 b3 hv3
          unfold hX8_waysToClose_10
          rw [r4, r8]
          refine ⟨⟨by omega, by omega⟩, ⟨by omega, by omega⟩, fun c2 => ?_, fun c2 => ?_⟩
          · rw [hv3, List.take_of_length_le (by omega), hval]
            exact ⟨⟨by omega, by omega⟩, hK R hLn⟩
          · have hi1 : i - 1 < q.length := by omega
            have hz : p[i - 1]? = some (q[i - 1]) := by
              rw [hq, List.getElem?_append_left hi1]; exact List.getElem?_eq_getElem hi1
            have hRi : R i = (q[i - 1] : Nat) := by
              have := hLn.2 (i - 1) _ hz
              rwa [show i - 1 + 1 = i by omega] at this
            have hzN := hpN _ (List.mem_of_getElem? hz)
            generalize hzz : q[i - 1] = z at *
            have et : ((at' : Int) * 60 + (z : Int)).toNat = 60 * at' + z := by omega
            have et2 : ((z : Int) * 60 + (s : Int)).toNat = 60 * z + s := by omega
            rw [Int.toNat_natCast, Int.toNat_zero, hRi, hLn.1, et, et2, h1 at' z (by omega) (by omega), h1 z s (by omega) (by omega)]
            refine ⟨⟨by omega, by omega⟩, ⟨by omega, by omega⟩, ⟨by omega, by omega⟩, ihk (i + 1) _ (by omega) (by omega) (by omega) ?_⟩
            have e6 : q.take (i + 1 - 1) = q.take (i - 1) ++ [z] := by
              rw [show i + 1 - 1 = i - 1 + 1 by omega, List.take_succ_eq_append_getElem hi1, hzz]
            rw [e6, hv3, List.map_append, List.foldr_append]
            have e7 : ∀ (l : List Int) (c : Int), l.foldr (· + ·) c = l.foldr (· + ·) 0 + c := by
              intro l c
              induction l with
              | nil => simp
              | cons x l ih => simp only [List.foldr_cons]; rw [ih]; omega
            rw [show (List.foldr (· + ·) 0 (List.map (fun z => J at' z * J z s) [z]) : Int) = J at' z * J z s by simp, e7 _ (J at' z * J z s)]
            omega
      exact key f 1 _ (Nat.le_refl _) (by omega) (by omega) (by simp)
    · -- one node more
      have hkp : p.length + 2 ≤ k := by omega
      rintro _ rfl
      have h2a : 2 ^ at' < 2 ^ 60 := Nat.pow_lt_pow_right (by decide) (by omega)
      have eB : cW m B R [8, 0] 9 = B := by rw [cW_q, st_at]
      rw [cW_w9, eB, zl_shl (by omega), zl_or (by omega) (by omega)]
      have hB2 : B ||| 2 ^ at' < 2 ^ 60 := Nat.or_lt_two_pow hB h2a
      have hBv2 : ∀ v, v < N → ((B ||| 2 ^ at').testBit v = true ↔ v = s ∨ v ∈ p) := by
        intro v hv
        rw [zt_or]
        simp only [Bool.or_eq_true, decide_eq_true_eq]
        rw [hBv v hv]
        by_cases hne : p = []
        · subst hne
          have : at' = s := by rw [← hatd]; rfl
          simp [this, eq_comm]
        · have e1 : p.getLast hne = at' := by
            rw [← hatd, List.getLastD_eq_getLast?, List.getLast?_eq_some_getLast hne]; rfl
          have e2 := List.dropLast_concat_getLast hne
          rw [e1] at e2
          constructor
          · rintro ((⟨_, h⟩ | h) | h)
            · exact Or.inl h
            · exact Or.inr (List.dropLast_subset _ h)
            · right; rw [← e2]; simp [h]
          · rintro (h | h)
            · exact Or.inl (Or.inl ⟨hne, h⟩)
            · rw [← e2, List.mem_append, List.mem_singleton] at h
              rcases h with h | h
              · exact Or.inl (Or.inr h)
              · exact Or.inr h.symm
      obtain ⟨n, n1, n2, n3, n4⟩ := h3 at' hat
      have ek : k - p.length = (k - p.length - 1) + 1 := by omega
      -- what a neighbour brings
      obtain ⟨g, hg⟩ : ∃ g : Nat → Int, g = fun v => if zDD s (p ++ [v]) then J at' v * zHc J N s (k - p.length - 1) (p ++ [v]) else 0 := ⟨_, rfl⟩
      have fin : zs n (fun i => g (G5 (60 * at' + i)).toNat) = zHc J N s (k - p.length) p := by
        rw [n4 g, ek, zHc_step, hatd, hg]
        refine zs_ext (fun v _ => ?_)
        by_cases hj : J at' v = 0
        · rw [if_neg (by simpa using hj), hj]; split <;> simp
        · rw [if_pos hj]
      have key : ∀ (kk i : Nat) (w4 : Int) (R : Nat → Int), i ≤ n → n - i < kk → zLn R s p → w4 = zs i (fun i => g (G5 (60 * at' + i)).toNat) → hX8_waysOn_43 f Φ (rG1 f d) kk [8, 0] at' p.length ((k : Int) + 1) w4 i (cW m ((B ||| 2 ^ at' : Nat) : Int) R) := by
        intro kk
        induction kk with
        | zero => intro i w4 R b1 b2; omega
        | succ kk ihk =>
          intro i w4 R b1 b2 hLn hw4
          unfold hX8_waysOn_43
          rw [r6, r5, r8, Int.toNat_natCast, n1, cW_q, st_at, Int.toNat_zero, hLn.1]
          refine ⟨⟨by omega, by omega⟩, ⟨by omega, by omega⟩, ⟨by omega, by omega⟩, fun c2 => ?_, fun c2 => ?_⟩
          · rintro _ rfl
            obtain ⟨B', b1', b2', b3'⟩ := zl_clr (n := B ||| 2 ^ at') (i := at') (by omega) (by omega)
            rw [b2', cW_w9]
            have eB' : B' = B := by
              apply Nat.eq_of_testBit_eq
              intro v
              rw [b3', zt_or]
              by_cases hv : v = at'
              · subst hv
                have : B.testBit v = false := by
                  by_cases hbv : B.testBit v = true
                  · exfalso
                    rcases (hBv v hat).mp hbv with ⟨hne, h⟩ | h
                    · have : v ∈ p := by
                        rw [← hatd, List.getLastD_eq_getLast?, List.getLast?_eq_some_getLast hne]
                        exact List.getLast_mem hne
                      have := hDp.2 v this
                      omega
                    · have hne : p ≠ [] := by intro e; rw [e] at h; simp at h
                      have e1 : p.getLast hne = v := by
                        rw [← hatd, List.getLastD_eq_getLast?, List.getLast?_eq_some_getLast hne]; rfl
                      have e2 := List.dropLast_concat_getLast hne
                      rw [e1] at e2
                      have hn2 := hDp.1
                      rw [← e2, List.nodup_append] at hn2
                      exact hn2.2.2 v h v (by simp) rfl
                  · simpa using hbv
                simp [this]
              · simp [hv, Ne.symm hv]
            rw [eB', hw4, show i = n by omega, fin]
            exact hK R hLn
          · have n3i := n3 i (by omega)
            have et : ((at' : Int) * 60 + (i : Int)).toNat = 60 * at' + i := by omega
            rw [et]
            obtain ⟨w, hw⟩ : ∃ w : Nat, G5 (60 * at' + i) = w := ⟨(G5 (60 * at' + i)).toNat, by omega⟩
            have hwt : (G5 (60 * at' + i)).toNat = w := by rw [hw]; rfl
            rw [hw] at n3i ⊢
            have hwN : w < N := by omega
            have skip : zDD s (p ++ [w]) = false → hX8_waysOn_43 f Φ (rG1 f d) kk [8, 0] at' p.length ((k : Int) + 1) w4 ((i : Int) + 1) (cW m ((B ||| 2 ^ at' : Nat) : Int) R) := by
              intro hz
              refine ihk (i + 1) w4 R (by omega) (by omega) hLn ?_
              simp only [zs]
              rw [← hw4, hwt, hg]
              simp [hz]
            refine ⟨⟨by omega, by omega⟩, ⟨by omega, by omega⟩, ⟨by omega, by omega⟩, fun c3 => skip ?_, fun c3 => ?_⟩
            · by_cases hz : zDD s (p ++ [w]) = true
              · have := ((zDD_iff hD).mp hz).1; omega
              · simpa using hz
            · have hbw := hBv2 w hwN
              rw [zl_bit (by omega) (by omega)]
              by_cases hbit : (B ||| 2 ^ at').testBit w = true
              · rw [if_pos hbit]
                refine ⟨by decide, fun _ => skip ?_, fun c => absurd c (by decide)⟩
                by_cases hz : zDD s (p ++ [w]) = true
                · have := (zDD_iff hD).mp hz
                  rcases hbw.mp hbit with h | h
                  · omega
                  · exact absurd h this.2
                · simpa using hz
              · rw [if_neg hbit]
                have hz : zDD s (p ++ [w]) = true := (zDD_iff hD).mpr ⟨by omega, fun h => hbit (hbw.mpr (Or.inr h))⟩
                refine ⟨by decide, fun c => absurd rfl c, fun _ => ⟨⟨by omega, by omega⟩, ?_⟩⟩
                rintro _ rfl
                have et2 : ((p.length : Int) + 1).toNat = p.length + 1 := by omega
                have et3 : ((at' : Int) * 60 + (w : Int)).toNat = 60 * at' + w := by omega
                rw [cW_w8, et2, et3, r4, h1 at' w (by omega) (by omega)]
                have hj2 := h2 at' w
                refine ⟨⟨by omega, by omega⟩, ⟨by omega, by omega⟩, ?_⟩
                have hLn2 : zLn (st R (p.length + 1) w) s (p ++ [w]) := by
                  refine ⟨by rw [st_ne (by omega)]; exact hLn.1, fun j v hj => ?_⟩
                  by_cases ej : j < p.length
                  · rw [List.getElem?_append_left ej] at hj
                    rw [st_ne (by omega)]; exact hLn.2 j v hj
                  · rw [List.getElem?_append_right (by omega)] at hj
                    have : j = p.length := by
                      have := (List.getElem?_eq_some_iff.mp hj).1
                      simp at this; omega
                    subst this
                    simp at hj
                    rw [st_at, hj]
                have := ih (p ++ [w]) (fun z1 m3 => hX8_waysOn_43 f Φ (rG1 f d) kk [8, 0] at' p.length ((k : Int) + 1) (w4 + J at' w * z1) ((i : Int) + 1) m3) (B ||| 2 ^ at') (st R (p.length + 1) w) (by rw [List.length_append]; simp; omega) (by rw [List.length_append]; simp; omega) hz (fun x hx => by
                    rw [List.mem_append, List.mem_singleton] at hx
                    rcases hx with h | h
                    · exact hpN x h
                    · rw [h]; exact hwN) hLn2 hB2 (fun v hv => by rw [hBv2 v hv, List.dropLast_concat]; simp) (fun R' hLn' => ?_)
                · rw [zlastD, List.length_append] at this
                  exact this
                · refine ihk (i + 1) _ R' (by omega) (by omega) ⟨hLn'.1, fun j v hj => hLn'.2 j v (by rw [List.getElem?_append_left (List.getElem?_eq_some_iff.mp hj).1]; exact hj)⟩ ?_
                  simp only [zs]
                  rw [← hw4, hwt, hg]
                  simp only [hz, if_true]
                  rw [List.length_append, show k - (p.length + [w].length) = k - p.length - 1 by simp; omega]
      exact key f 0 0 R (by omega) (by omega) hLn rfl
