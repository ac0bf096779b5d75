/-! WORKS: both -/
def BB (P : Nat → Int) (c : List Int) : Nat → Int := fun j => if j < 204 then P j else if j = 204 then (c.length : Int) else c.getD (j - 205) 0
theorem BB_lo {P : Nat → Int} {c : List Int} {j : Nat} (h : j < 204) : BB P c j = P j := if_pos h
theorem BB_204 {P : Nat → Int} {c : List Int} : BB P c 204 = c.length := by
  unfold BB
  rw [if_neg (by omega), if_pos rfl]
theorem BB_cd {P : Nat → Int} {c : List Int} {i : Nat} : BB P c (205 + i) = c.getD i 0 := by
  unfold BB
  rw [if_neg (by omega), if_neg (by omega), show 205 + i - 205 = i by omega]
theorem zty_zts {cd : Nat → Int} : ∀ (e : List Int) (i : Nat) (ts : List Bool), (∀ j, j < e.length → cd (i + j) = e.getD j 0) → zty cd i e.length ts = zts e ts
  | [], _, _, _ => rfl
  | x :: e, i, ts, h => by
    have h0 : cd i = x := h 0 (by simp)
    show (match ztc (cd i) ts with
      | none => none
      | some ts' => if ts'.length ≤ 60 then zty cd (i + 1) e.length ts' else none) = (match ztc x ts with
      | none => none
      | some ts' => if ts'.length ≤ 60 then zts e ts' else none)
    rw [h0]
    cases ztc x ts with
    | none => rfl
    | some t1 =>
      simp only
      rw [zty_zts e (i + 1) t1 (fun j hj => by
        have := h (j + 1) (by simp only [List.length_cons]; omega)
        rw [show i + 1 + j = i + (j + 1) by omega]
        exact this)]
theorem lLw_OK {P : Nat → Int} {c : List Int} {lw : Nat} {ty : Bool} (hl : lw < 2) (hc : c.length ≤ 900) (h : lLw P c lw ty) : zLawOK (BB P c) lw ty := by
  unfold zLawOK
  rw [BB_lo (by omega), BB_lo (by omega), BB_lo (by omega), BB_204]
  rcases h with h | ⟨h1, c1, e, c2, h2, h3, h4, h5, h6⟩
  · exact Or.inl h
  · have hlen : c.length = c1.length + (e.length + c2.length) := by rw [h2, List.length_append, List.length_append]
    refine Or.inr ⟨h1, c1.length, e.length, h3, h4, h5, by omega, by omega, ?_⟩
    rw [zty_zts e c1.length [] (fun j hj => ?_), h6]
    show BB P c (205 + (c1.length + j)) = _
    rw [BB_cd, h2, List.getD_eq_getElem?_getD, List.getElem?_append_right (by omega), show c1.length + j - c1.length = j by omega, List.getElem?_append_left hj, List.getD_eq_getElem?_getD]
theorem lI_A {P : Nat → Int} {c : List Int} {b : Nat} (I : lI P c b) (hb : b ≤ 900) (hc : c.length ≤ 900) : wA (BB P c) := by
  obtain ⟨i1, i2, i3, i4, i5, i6, i7, i8, i9, i10⟩ := I
  refine ⟨?_, ?_, ?_, fun j hj => ?_, ⟨0, ?_, by decide⟩, ?_, ?_, ?_, lLw_OK (by omega) hc i5, lLw_OK (by omega) hc i6⟩
  · rw [BB_lo (by omega), BB_lo (by omega), BB_lo (by omega), BB_lo (by omega)]; exact i1
  · rw [BB_lo (by omega)]; exact i2
  · rw [BB_lo (by omega)]; exact i3
  · rw [BB_lo (by omega)] at hj
    rw [BB_lo (by omega), BB_lo (by omega), BB_lo (by omega), BB_lo (by omega), BB_lo (by omega), BB_lo (by omega), BB_lo (by omega), BB_lo (by omega), BB_lo (by omega)]
    exact i4 j hj
  · rw [BB_lo (by omega)]; exact i7
  · rw [BB_lo (by omega)]; exact i9
  · rw [BB_lo (by omega)]; omega
  · rw [BB_204]; omega
theorem lC_P {m : aj_M} {T : Nat → Int} {n b : Nat} {P : Nat → Int} {c : List Int} {pl : Int} (h : lC m T n b c P pl) (I : lI P c b) : wP m [3, 0, 0] (BB P c) := by
  obtain ⟨hc, ⟨h1, h2, h3, h4, h5, ⟨H, a1, a2, a3⟩, h7, h8⟩, hpl⟩ := h
  have h6 := I.2.2.1
  refine ⟨?_, ?_, ?_, ?_, ⟨H, a1, ?_, fun j hj => ?_⟩, fun j hj => ?_, ?_⟩
  · rw [BB_lo (by omega), BB_lo (by omega), BB_lo (by omega), BB_lo (by omega)]; exact h1
  · rw [BB_lo (by omega)]; exact h3
  · rw [BB_lo (by omega)]; exact h4
  · rw [BB_lo (by omega)]; exact h5
  · have e6 : BB P c 6 = P 6 := BB_lo (by omega)
    have hp : 2 ^ (P 6).toNat ≤ 2 ^ 12 := Nat.pow_le_pow_right (by decide) (by omega)
    omega
  · rw [BB_lo (by omega)] at hj
    rw [BB_lo (by omega)]
    exact a3 j hj
  · rw [BB_lo (by omega)] at hj
    rw [BB_lo (by omega), BB_lo (by omega)]
    exact ⟨(h7 j hj).1, (h7 j hj).2.1⟩
  · unfold wPl
    rw [BB_204, BB_lo (by omega), BB_lo (by omega), BB_lo (by omega), BB_lo (by omega), BB_lo (by omega), BB_lo (by omega)]
    refine ⟨hc.2.2.2.2.1, fun i hi => ?_, h8.1, h8.2.1, h8.2.2.1, h8.2.2.2.1, h8.2.2.2.2.1, h8.2.2.2.2.2.1, h8.2.2.2.2.2.2.1, h8.2.2.2.2.2.2.2⟩
    rw [BB_cd]
    exact hc.2.2.2.2.2 i (by omega)
def gdW (n : Nat) : (List Int × (Nat → Int)) ⊕ (Int × Int) → Prop
  | .inl (c, P) => c.length ≤ n ∧ lI P c n
  | .inr (k, a) => (1 ≤ k ∧ k ≤ 4) ∧ 0 ≤ a ∧ a ≤ 900
def wkL : List (List Nat) := [0] :: [5, 0] :: [2, 0] :: [0, 2, 0] :: (zcpl [1, 0] ++ lCl)
def wkC (Φ : Int → aj_M → Prop) (m : aj_M) : (List Int × (Nat → Int)) ⊕ (Int × Int) → Prop
  | .inl (c, P) => ∀ m', zo wkL m m' → (∀ j, j ≠ 12 → m' [0] j = m [0] j) → m' [0] 12 = 1 → (m' [0, 0] 1 = 0 ∧ m' [0, 0] 9 = 0 ∧ m' [0, 0] 10 = -1) → wP m' [1, 0] (BB P c) → m' [1, 0] 10 = -1 → wS m' [2, 0] (BB P c) → (m' [5, 0] 2 = 0 ∧ m' [5, 0] 1 = m [5, 0] 1) → Φ (P 0) m'
  | .inr (k, a) => ∀ m', zo lCl m m' → (m' [0, 0] 1 = 0 ∧ m' [0, 0] 9 = k ∧ m' [0, 0] 10 = a) → Φ (-30 - k) m'
def wkR (Φ : Int → aj_M → Prop) (m : aj_M) : (List Int × (Nat → Int)) ⊕ (Int × Int) → Prop
  | .inl (c, P) => ∀ m', zo [[1], [4, 1], [1, 1]] m m' → (m' [1] 5 = 0 ∧ m' [1] 13 = 0 ∧ m' [1] 14 = -1) → (∀ j, j < 204 → m' [1, 1] j = P j) → m' [1, 1] 204 = c.length → (∀ i, i < c.length → m' [1, 1] (205 + i) = c.getD i 0) → (∀ j, 1105 ≤ j → m' [1, 1] j = m [1, 1] j) → Φ (P 0) m'
  | .inr (k, a) => ∀ m', zo [[1], [4, 1]] m m' → (m' [1] 5 = 0 ∧ m' [1] 13 = k ∧ m' [1] 14 = a) → Φ (-30 - k) m'
section WKS
variable {f n : Nat} {T : Nat → Int}
/-- the class begins to read -/
theorem rd_beg {Φ : Int → aj_M → Prop} {m : aj_M} {n0 : Nat} (O : tpOK f T n) (ht : zTpC m T n0) (hn : n ≤ n0) (hn0 : n0 ≤ 900) (hK : ∀ m', zo lCl m m' → (m' [0, 0] 1 = 0) → lC m' T n 0 [] pP0 0 → wX7_readHead f (fun z3 m9 => rI z3 ∧ (¬ z3 = 0 → hX7_readAll_59 f Φ f [0, 0] 0 m9) ∧ (z3 = 0 → Φ 0 m9)) [0, 0] m') : wX7_readAll f Φ [0, 0] (n : Int) m := by
  have hf := O.1
  refine ⟨⟨by omega, by omega⟩, by rw [ht.1]; exact ⟨by omega, by omega⟩, ?_⟩
  rintro _ rfl
  rintro _ rfl
  rw [ht.1, show min (n : Int) (n0 : Int) = n by omega]
  refine pX0_makeProduct (k := 1) (c := 1) (d := 0) (a := 1) (b := 1) (by omega) (by decide) (by decide) (by decide) (gPr_ok1 ⟨by omega, by omega⟩) (fun x y _ _ _ _ => gPr_1) (fun m3 z3 g3 => ?_)
  unfold wX4_clear
  rintro _ rfl _ rfl _ rfl _ rfl _ rfl _ rfl _ rfl _ rfl _ rfl _ rfl _ rfl _ rfl _ rfl _ rfl _ rfl
  generalize hM : aj_u _ [0, 0] 10 (-1) = M
  have o0 : ∀ p, p ≠ [0, 0] → p ≠ [3, 0, 0] → p ≠ [1, 3, 0, 0] → M p = m3 p := fun p a1 a2 a3 => by
    rw [← hM]
    simp only [zu_off a1, zu_off a2, zu_off a3]
  have o1 : ∀ p, p ∉ lCl → M p = m p := fun p hp => by
    simp only [lCl, zcpl, List.mem_cons, List.not_mem_nil, or_false, not_or] at hp
    rw [o0 p hp.1 hp.2.1 hp.2.2.2.2.2.2.1, z3 p (by simp [hp.2.2.1, hp.2.2.2.1, hp.2.2.2.2.1, hp.2.2.2.2.2.1]), zu_off hp.1, zu_off hp.1]
  have e00 : ∀ j, m3 [0, 0] j = tup (tup (m [0, 0]) 2 n) 1 0 j := fun j => by rw [z3 _ (by decide), zu_tup, zu_tup]
  have v1 : M [0, 0] 1 = 0 := by rw [← hM]; simp [aj_u, e00, tup]
  have v2 : M [0, 0] 2 = n := by rw [← hM]; simp [aj_u, e00, tup]
  have v4 : M [0, 0] 4 = 0 := by rw [← hM]; simp [aj_u]
  have v6 : M [0, 0] 6 = 0 := by rw [← hM]; simp [aj_u]
  have v9 : M [0, 0] 9 = 0 := by rw [← hM]; simp [aj_u]
  have v10 : M [0, 0] 10 = -1 := by rw [← hM]; simp [aj_u]
  have p2 : M [3, 0, 0] 2 = 0 := by rw [← hM]; simp [aj_u]
  have p3 : M [3, 0, 0] 3 = 1 := by rw [← hM]; simp [aj_u]
  have p4 : M [3, 0, 0] 4 = 0 := by rw [← hM]; simp [aj_u]
  have p5 : M [3, 0, 0] 5 = 0 := by rw [← hM]; simp [aj_u]
  have p6 : M [3, 0, 0] 6 = 0 := by rw [← hM]; simp [aj_u]
  have w1 : M [1, 3, 0, 0] 1 = 0 := by rw [← hM]; simp [aj_u]
  have w2 : M [1, 3, 0, 0] 2 = 0 := by rw [← hM]; simp [aj_u]
  have w3 : M [1, 3, 0, 0] 3 = 0 := by rw [← hM]; simp [aj_u]
  have w4 : M [1, 3, 0, 0] 4 = 0 := by rw [← hM]; simp [aj_u]
  have w5 : M [1, 3, 0, 0] 5 = 0 := by rw [← hM]; simp [aj_u]
  have gM : gC M [0, 3, 0, 0] 1 1 0 (1 * 1) := gC_off g3 (o0 _ (by decide) (by decide) (by decide)) (o0 _ (by decide) (by decide) (by decide)) (o0 _ (by decide) (by decide) (by decide)) (o0 _ (by decide) (by decide) (by decide))
  have tx : ∀ j, j < n → M [0, 0, 0] j = zSb (T j) := fun j hj => by
    rw [o1 _ (by decide)]
    exact ht.2 j (by omega)
  clear hM
  refine pX7_stepR (T := T) (n := n) (b := 0) (by omega) O.2.1 O.2.2 (by omega) tx v2 (by rw [v6]; rfl) (fun R r1 r2 => ?_)
  have of : ∀ p, p ≠ [0, 0] → aj_ur M [0, 0] R p = M p := fun p hp => zm_uro hp
  refine hK _ (fun p hp => ?_) (by rw [zm_urs, r1 1 (by omega)]; exact v1) ⟨⟨by rw [zm_urs]; exact r2, by rw [zm_urs, r1 2 (by omega)]; exact v2, by rw [zm_urs, r1 9 (by omega), r1 10 (by omega)]; exact ⟨v9, v10⟩, fun j hj => by rw [of _ (by decide)]; exact tx j hj, by rw [of _ (by decide)]; exact w1, fun i hi => absurd hi (by simp)⟩, ⟨?_, ?_, ?_, ?_, ?_, ?_, fun j hj => ?_, ?_⟩, by rw [zm_urs, r1 4 (by omega)]; exact v4⟩
  · rw [of p (fun e => hp (by rw [e]; decide))]
    exact o1 p hp
  · exact gC_off gM (of _ (by decide)) (of _ (by decide)) (of _ (by decide)) (of _ (by decide))
  · rw [of _ (by decide), p2]; rfl
  · rw [of _ (by decide), p3]; rfl
  · rw [of _ (by decide), p4]; rfl
  · rw [of _ (by decide), p5]; rfl
  · rw [of _ (by decide), p6]
    exact ⟨0, rfl, by decide, fun j hj => absurd hj (by rw [pP0_z (by omega)]; omega)⟩
  · rw [pP0_z (by omega)] at hj
    omega
  · unfold lGs
    rw [of _ (by decide), w2, w3, w4, w5]
    refine ⟨by decide, by decide, by decide, by decide, fun _ => by decide, fun x => absurd x (by decide), fun _ => by decide, fun x => absurd x (by decide)⟩
theorem hX12_pln {Φ : aj_M → Prop} {m : aj_M} (h : ∀ R : Nat → Int, (∀ j, j < 1105 → R j = pP0 j) → Φ (aj_ur m [4, 1] R)) : ∀ (k i : Nat) (R : Nat → Int), i ≤ 1105 → 1105 - i < k → (∀ j, j < i → R j = 0) → hX12_plain_2 f Φ k 1105 [4, 1] (i : Int) (aj_ur m [4, 1] R) := by
  intro k
  induction k with
  | zero => intro i R h1 h2; omega
  | succ k ih =>
    intro i R h1 h2 h3
    refine ⟨⟨by omega, by omega⟩, fun c => ⟨by decide, ?_⟩, fun c => ⟨⟨by omega, by omega⟩, ?_⟩⟩
    · rintro _ rfl
      refine ⟨by decide, ?_⟩
      rintro _ rfl
      refine ⟨by decide, ?_⟩
      rintro _ rfl
      refine ⟨by decide, ?_⟩
      rintro _ rfl
      rw [zm_urt, zm_urt, zm_urt, zm_urt]
      refine h _ (fun j hj => ?_)
      show (if j = 5 then 1 else if j = 4 then 1 else if j = 2 then 1 else if j = 1 then 1 else R j) = if j = 1 ∨ j = 2 ∨ j = 4 ∨ j = 5 then 1 else 0
      rw [h3 j (by omega)]
      by_cases a1 : j = 5
      · rw [if_pos a1, if_pos (by omega)]
      · by_cases a2 : j = 4
        · rw [if_neg a1, if_pos a2, if_pos (by omega)]
        · by_cases a3 : j = 2
          · rw [if_neg a1, if_neg a2, if_pos a3, if_pos (by omega)]
          · by_cases a4 : j = 1
            · rw [if_neg a1, if_neg a2, if_neg a3, if_pos a4, if_pos (by omega)]
            · rw [if_neg a1, if_neg a2, if_neg a3, if_neg a4, if_neg (by omega)]
    · rintro _ rfl
      rw [zm_urt, Int.toNat_natCast]
      refine ih (i + 1) _ (by omega) (by omega) (fun j hj => ?_)
      by_cases e : j = i
      · rw [e, tup_s]
      · rw [tup_o e]
        exact h3 j (by omega)
theorem rd_begR {Φ : Int → aj_M → Prop} {m : aj_M} {n0 : Nat} (O : tpOK f T n) (ht : zTpR m T n0) (hn : n ≤ n0) (hn0 : n0 ≤ 900) (hK : ∀ m', zo [[1], [4, 1]] m m' → m' [1] 5 = 0 → lR m' T n 0 [] pP0 0 → wX12_eats f (fun z4 m10 => rI z4 ∧ (¬ z4 = 0 → hX12_works_71 f Φ [1] m10) ∧ (z4 = 0 → wX12_fails f (fun m11 => hX12_works_71 f Φ [1] m11) [1] 2 m10)) [1] 0 m') : wX12_works f Φ [1] (n : Int) m := by
  have hf := O.1
  rintro _ rfl
  have e5 : aj_u m [1] 0 0 [1] 5 = n0 := by rw [zu_tup, tup_o (by omega)]; exact ht.1
  rw [e5]
  refine ⟨⟨by omega, by omega⟩, ⟨by omega, by omega⟩, pX12_within ⟨by omega, by omega⟩ (by decide) ⟨by omega, by omega⟩ ?_⟩
  rw [if_pos ⟨by omega, by omega⟩]
  refine zc1 ?_
  rintro _ rfl _ rfl _ rfl _ rfl _ rfl
  generalize hM : aj_u _ [1] 15 0 = M
  have o0 : ∀ p, p ≠ [1] → M p = m p := fun p a1 => by
    rw [← hM]
    simp only [zu_off a1]
  have v5 : M [1] 5 = 0 := by rw [← hM]; simp [aj_u]
  have v8 : M [1] 8 = n := by rw [← hM]; simp [aj_u]
  have v7 : M [1] 7 = 0 := by rw [← hM]; simp [aj_u]
  have v11 : M [1] 11 = 0 := by rw [← hM]; simp [aj_u]
  have v15 : M [1] 15 = 0 := by rw [← hM]; simp [aj_u]
  clear hM
  have pl : wX12_plain f (fun m8 => wX12_next f (fun m9 => wX12_eats f (fun z4 m10 => rI z4 ∧ (¬ z4 = 0 → hX12_works_71 f Φ [1] m10) ∧ (z4 = 0 → wX12_fails f (fun m11 => hX12_works_71 f Φ [1] m11) [1] 2 m10)) [1] 0 m9) [1] m8) 1105 [4, 1] (aj_ur M [4, 1] (M [4, 1])) := by
    refine hX12_pln (f := f) (fun R hR => ?_) f 0 (M [4, 1]) (by omega) (by omega) (fun j hj => absurd hj (by omega))
    have of : ∀ p, p ≠ [4, 1] → aj_ur M [4, 1] R p = M p := fun p hp => zm_uro hp
    refine pX12_nextR (T := T) (n := n) (b := 0) (by omega) O.2.1 O.2.2 (by omega) (fun j hj => by rw [of _ (by decide), o0 _ (by decide)]; exact ht.2 j (by omega)) (by rw [of _ (by decide)]; exact v8) (by rw [of _ (by decide), v7]; rfl) (fun R1 r1 r2 => ?_)
    have og : ∀ p, p ≠ [1] → p ≠ [4, 1] → aj_ur (aj_ur M [4, 1] R) [1] R1 p = m p := fun p a1 a2 => by rw [zm_uro a1, of p a2, o0 p a1]
    have e1 : ∀ j, j ≠ 6 → j ≠ 7 → j ≠ 9 → j ≠ 10 → R1 j = M [1] j := fun j a1 a2 a3 a4 => by rw [r1 j a1 a2 a3 a4, of _ (by decide)]
    refine hK _ (fun p hp => ?_) (by rw [zm_urs, e1 5 (by omega) (by omega) (by omega) (by omega)]; exact v5) ⟨⟨by rw [zm_urs]; exact r2, by rw [zm_urs, e1 8 (by omega) (by omega) (by omega) (by omega)]; exact v8, by rw [zm_urs, e1 11 (by omega) (by omega) (by omega) (by omega)]; exact v11, fun j hj => by rw [og _ (by decide) (by decide)]; exact ht.2 j (by omega), by rw [zm_uro (by decide), zm_urs, hR 204 (by omega)]; exact pP0_z (by omega), fun i hi => absurd hi (by simp)⟩, fun j hj => by rw [zm_uro (by decide), zm_urs]; exact hR j (by omega), by rw [zm_urs, e1 15 (by omega) (by omega) (by omega) (by omega)]; exact v15⟩
    simp only [List.mem_cons, List.not_mem_nil, or_false, not_or] at hp
    exact og p hp.1 hp.2
  rw [zm_ur_self] at pl
  exact pl
theorem hX12_w177 {Φ : Int → aj_M → Prop} {m : aj_M} {F A : Nat → Int} (hF : m [4, 1] = F) (h : Φ (F 0) (aj_ur m [1, 1] (fun j => if j < 1105 then F j else A j))) : ∀ (k i : Nat) (X : Nat → Int), i ≤ 1105 → 1105 - i < k → (∀ j, X j = if j < i then F j else A j) → hX12_works_177 f Φ k [1] (i : Int) (aj_ur m [1, 1] X) := by
  intro k
  induction k with
  | zero => intro i X h1 h2; omega
  | succ k ih =>
    intro i X h1 h2 h3
    refine ⟨⟨by omega, by omega⟩, fun c => ?_, fun c => ⟨⟨by omega, by omega⟩, ⟨by omega, by omega⟩, ?_⟩⟩
    · have ei : i = 1105 := by omega
      have e : X = (fun j => if j < 1105 then F j else A j) := by
        funext j
        rw [h3 j, ei]
      rw [zm_urs, show (0 : Int).toNat = 0 from rfl, h3 0, if_pos (by omega), e]
      exact h
    · rintro _ rfl
      rw [zm_uro (by decide), hF, zm_urt, Int.toNat_natCast]
      refine ih (i + 1) _ (by omega) (by omega) (fun j => ?_)
      show (if j = i then F i else X j) = _
      by_cases e : j = i
      · rw [if_pos e, if_pos (by omega), e]
      · rw [if_neg e, h3 j]
        by_cases d : j < i
        · rw [if_pos d, if_pos (by omega)]
        · rw [if_neg d, if_neg (by omega)]
theorem zWorks (O : tpOK f T n) : ∃ r, gdW n r ∧ (∀ (Φ : Int → aj_M → Prop) (m : aj_M) (n0 : Nat), zTpC m T n0 → n ≤ n0 → n0 ≤ 900 → wkC Φ m r → wX11_works f Φ [0] (n : Int) m) ∧ (∀ (Φ : Int → aj_M → Prop) (m : aj_M) (n0 : Nat), zTpR m T n0 → n ≤ n0 → n0 ≤ 900 → wkR Φ m r → wX12_works f Φ [1] (n : Int) m) := by
  have hf := O.1
  have hn := O.2.2
  obtain ⟨r1, k1, k2, k3⟩ := hd_head (T := T) O
  -- how the class and the reference end
  have endF : ∀ (Φ : Int → aj_M → Prop) (m m' : aj_M) (k a : Int), zo lCl m m' → m' [0, 0] 1 = 0 → pcX m' k a → wkC Φ m (.inr (k, a)) → Φ (-30 - m' [0, 0] 9) m' := by
    intro Φ m m' k a z e1 x h
    rw [x.1]
    exact h m' z ⟨e1, x.1, x.2⟩
  have endR : ∀ (Φ : Int → aj_M → Prop) (m m' : aj_M) (k a : Int), (1 ≤ k ∧ k ≤ 4) → zo [[1], [4, 1]] m m' → m' [1] 5 = 0 → prX m' k a → wkR Φ m (.inr (k, a)) → hX12_works_133 f Φ [1] m' := by
    intro Φ m m' k a hk z e5 x h
    unfold hX12_works_133
    rintro _ rfl
    rw [zu_tup, tup_o (by omega), x.1]
    refine ⟨⟨by omega, by omega⟩, fun _ => ?_, fun y => by omega⟩
    rintro _ rfl
    have e11 : ∀ y, aj_u (aj_u m' [1] 13 k) [1] 14 y [1] 11 = k := fun y => by
      rw [zu_tup, tup_o (by omega), zu_tup, tup_o (by omega)]
      exact x.1
    rw [e11]
    refine ⟨⟨by omega, by omega⟩, fun y => by omega, fun _ => h _ (fun p hp => ?_) ⟨?_, ?_, ?_⟩⟩
    · have hp1 : p ≠ [1] := fun e => hp (by rw [e]; simp)
      rw [zu_off hp1, zu_off hp1]
      exact z p hp
    · rw [zu_tup, tup_o (by omega), zu_tup, tup_o (by omega)]
      exact e5
    · rw [zu_tup, tup_o (by omega), zu_tup, tup_s]
    · rw [zu_tup, tup_s, tup_o (by omega)]
      exact x.2
  have wkI : ∀ (Φ : Int → aj_M → Prop) (m : aj_M) (n0 : Nat), zTpC m T n0 → n ≤ n0 → n0 ≤ 900 → (∀ m', zo lCl m m' → m' [0, 0] 1 = 0 → lC m' T n 0 [] pP0 0 → wX7_readHead f (fun z3 m9 => rI z3 ∧ (¬ z3 = 0 → hX7_readAll_59 f (fun z1 m1 => rI z1 ∧ (¬ z1 = 0 → wX6_copyFrom f (fun m2 => wX9_begin f (fun m3 => wX1_forget f (fun m4 => ∀ m5, m5 = aj_u m4 [0] 12 1 → Φ (m5 [1, 0] 5) m5) [5, 0] m3) [2, 0] [1, 0] m2) [1, 0] [3, 0, 0] m1) ∧ (z1 = 0 → Φ ((-30) - (m1 [0, 0] 9)) m1)) f [0, 0] 0 m9) ∧ (z3 = 0 → (rI 0 ∧ (¬ (0 : Int) = 0 → wX6_copyFrom f (fun m2 => wX9_begin f (fun m3 => wX1_forget f (fun m4 => ∀ m5, m5 = aj_u m4 [0] 12 1 → Φ (m5 [1, 0] 5) m5) [5, 0] m3) [2, 0] [1, 0] m2) [1, 0] [3, 0, 0] m9) ∧ ((0 : Int) = 0 → Φ ((-30) - (m9 [0, 0] 9)) m9)))) [0, 0] m') → wX11_works f Φ [0] (n : Int) m := by
    intro Φ m n0 ht h1 h2 hK
    refine ⟨⟨by omega, by omega⟩, fun x => by omega, fun _ => ⟨⟨by omega, by omega⟩, by rw [ht.1]; exact ⟨by omega, by omega⟩, fun _ => rd_beg O ht h1 h2 (fun m' z e l => hK m' z e l), fun x => by rw [ht.1] at x; omega⟩⟩
  rcases r1 with ⟨b1, c1, P1, pl1⟩ | ⟨x1, a1⟩
  · obtain ⟨q1, rfl, rfl, q4⟩ := k1
    obtain ⟨r2, l1, l2, l3⟩ := ln_all (f := f) (T := T) O (n - b1) b1 [] P1 0 (by omega) q1 (by simp) q4 (Or.inl rfl)
    rcases r2 with ⟨b2, c2, P2, pl2⟩ | ⟨x2, a2⟩
    · obtain ⟨j1, j2, j3⟩ := l1
      have j4 : lI P2 c2 n := ⟨j3.1, j3.2.1, j3.2.2.1, j3.2.2.2.1, j3.2.2.2.2.1, j3.2.2.2.2.2.1, j3.2.2.2.2.2.2.1, j3.2.2.2.2.2.2.2.1, j3.2.2.2.2.2.2.2.2.1, j3.2.2.2.2.2.2.2.2.2.1, by have := j3.2.2.2.2.2.2.2.2.2.2; omega⟩
      have hA := lI_A j3 (by omega) (by omega)
      refine ⟨.inl (c2, P2), ⟨by omega, j4⟩, fun Φ m n0 ht h1 h2 hΦ => wkI Φ m n0 ht h1 h2 (fun m1 z1 e1 y1 => k2 _ m1 y1 (fun m2 f2 y2 => zc1 (l2 _ m2 0 f (by omega) (by omega) y2 (fun m3 f3 y3 => zc1 ?_)))), fun Φ m n0 ht h1 h2 hΨ => rd_begR O ht h1 h2 (fun m1 z1 e1 y1 => k3 Φ m1 y1 (fun m2 f2 y2 => l3 Φ m2 f (by omega) y2 (fun m3 f3 y3 => ?_)))⟩
      · have z3 : zo lCl m m3 := zo_t z1 (zo_t f2.1 f3.1)
        have e3 : m3 [0, 0] 1 = 0 := by rw [f3.2 1 (by omega), f2.2 1 (by omega)]; exact e1
        have hP := lC_P y3 j3
        refine pX6_copyFrom hA hP (by unfold zcN; decide) (fun m4 z4 p4 q4 q5 q6 => ?_)
        rintro _ rfl _ rfl _ rfl _ rfl _ rfl
        generalize hM : aj_u _ [0] 12 1 = M
        have oM : ∀ p, p ≠ [0] → p ≠ [5, 0] → p ≠ [2, 0] → p ≠ [0, 2, 0] → M p = m4 p := fun p a1 a2 a3 a4 => by
          rw [← hM, zu_off a1, zu_off a2, zu_off a3, zu_off a3, zcp_off a4]
        have om : ∀ p, p ∉ wkL → M p = m p := fun p hp => by
          simp only [wkL, List.mem_cons, List.mem_append, not_or] at hp
          rw [oM p hp.1 hp.2.1 hp.2.2.1 hp.2.2.2.1, z4 p hp.2.2.2.2.1, z3 p hp.2.2.2.2.2]
        have e0 : ∀ j, j ≠ 12 → M [0] j = m [0] j := fun j hj => by
          rw [← hM, zu_tup, tup_o hj, zu_off (by decide), zu_off (by decide), zu_off (by decide), zcp_off (by decide), z4 _ (by decide), z3 _ (by decide)]
        have e12 : M [0] 12 = 1 := by rw [← hM, zu_tup, tup_s]
        have e00 : M [0, 0] = m3 [0, 0] := by rw [oM _ (by decide) (by decide) (by decide) (by decide), z4 _ (by decide)]
        have e5 : M [5, 0] 2 = 0 ∧ M [5, 0] 1 = m [5, 0] 1 := by
          constructor
          · rw [← hM, zu_off (by decide), zu_tup, tup_s]
          · rw [← hM, zu_off (by decide), zu_tup, tup_o (by omega), zu_off (by decide), zu_off (by decide), zcp_off (by decide), z4 _ (by decide), z3 _ (by decide)]
        have eP : wP M [1, 0] (BB P2 c2) := wP_zo p4 (fun r hr => by
          have q : ∀ r ∈ zcpl [1, 0], r ≠ [0] ∧ r ≠ [5, 0] ∧ r ≠ [2, 0] ∧ r ≠ [0, 2, 0] := by decide
          obtain ⟨a1, a2, a3, a4⟩ := q r hr
          exact oM r a1 a2 a3 a4)
        have e10 : M [1, 0] 10 = -1 := by rw [oM _ (by decide) (by decide) (by decide) (by decide)]; exact q4
        have eS : wS M [2, 0] (BB P2 c2) := by
          refine ⟨fun j hj => ?_, ?_, ?_⟩
          · rw [BB_lo (by omega)] at hj
            have h6 := j3.2.2.1
            rw [← hM, zu_off (by decide), zu_off (by decide), zu_off (by decide), zu_off (by decide), zcp_on (by show j < 12; omega), q6 j (by omega), BB_lo (by omega)]
            exact (y3.2.1.2.2.2.2.2.2.1 j hj).2.2
          · rw [← hM, zu_off (by decide), zu_off (by decide), zu_tup, tup_o (by omega), zu_tup, tup_s, BB_lo (by omega)]
            exact j3.2.2.2.2.2.2.1.symm
          · rw [← hM, zu_off (by decide), zu_off (by decide), zu_tup, tup_s, zu_off (by decide), zcp_off (by decide), q5, BB_lo (by omega)]
            exact y3.2.1.2.1
        have ePl : M [1, 0] 5 = P2 0 := by
          have := eP.2.2.2.1
          rwa [BB_lo (by omega)] at this
        rw [ePl]
        exact hΦ M om e0 e12 (by rw [e00]; exact ⟨e3, y3.1.2.2.1.1, y3.1.2.2.1.2⟩) eP e10 eS e5
      · have z3 : zo [[1], [4, 1]] m m3 := zo_t z1 (zo_t f2.1 f3.1)
        have e3 : m3 [1] 5 = 0 := by rw [f3.2 5 (by omega), f2.2 5 (by omega)]; exact e1
        have e11 : m3 [1] 11 = 0 := y3.1.2.2.1
        unfold hX12_works_133
        rintro _ rfl
        rw [zu_tup, tup_o (by omega), e11]
        refine ⟨by decide, fun y => absurd rfl y, fun _ => ?_⟩
        rintro _ rfl
        have g11 : aj_u (aj_u m3 [1] 13 0) [1] 14 (-1) [1] 11 = 0 := by
          rw [zu_tup, tup_o (by omega), zu_tup, tup_o (by omega)]
          exact e11
        rw [g11]
        refine ⟨by decide, fun _ => ?_, fun y => absurd rfl y⟩
        generalize hM : aj_u (aj_u m3 [1] 13 0) [1] 14 (-1) = M
        have oM : ∀ p, p ≠ [1] → M p = m3 p := fun p a1 => by rw [← hM, zu_off a1, zu_off a1]
        have v5 : M [1] 5 = 0 := by rw [← hM, zu_tup, tup_o (by omega), zu_tup, tup_o (by omega)]; exact e3
        have v13 : M [1] 13 = 0 := by rw [← hM, zu_tup, tup_o (by omega), zu_tup, tup_s]
        have v14 : M [1] 14 = -1 := by rw [← hM, zu_tup, tup_s]
        have e4 : M [4, 1] = m3 [4, 1] := oM _ (by decide)
        have s177 := hX12_w177 (f := f) (Φ := Φ) (m := M) (F := M [4, 1]) (A := M [1, 1]) rfl (by
          have e0 : M [4, 1] 0 = P2 0 := by rw [e4]; exact y3.2.1 0 (by omega)
          rw [e0]
          have hc2 : c2.length ≤ 900 := by omega
          refine hΨ _ (fun p hp => ?_) ?_ (fun j hj => ?_) ?_ (fun i hi => ?_) (fun j hj => ?_)
          · simp only [List.mem_cons, List.not_mem_nil, or_false, not_or] at hp
            rw [zm_uro hp.2.2, oM p hp.1]
            exact z3 p (by simp [hp.1, hp.2.1])
          · rw [zm_uro (by decide)]
            exact ⟨v5, v13, v14⟩
          · rw [zm_urs, if_pos (by omega), e4]
            exact y3.2.1 j hj
          · rw [zm_urs, if_pos (by omega), e4]
            exact y3.1.2.2.2.2.1
          · rw [zm_urs, if_pos (by omega), e4]
            exact y3.1.2.2.2.2.2 i hi
          · rw [zm_urs, if_neg (by omega), oM _ (by decide), z3 _ (by decide)]) f 0 (M [1, 1]) (by omega) (by omega) (fun j => by rw [if_neg (by omega)])
        rw [zm_ur_self] at s177
        exact s177
    · refine ⟨.inr (x2, a2), l1, fun Φ m n0 ht h1 h2 hΦ => wkI Φ m n0 ht h1 h2 (fun m1 z1 e1 y1 => k2 _ m1 y1 (fun m2 f2 y2 => zc1 (l2 _ m2 0 f (by omega) (by omega) y2 (fun m3 f3 y3 => zc0 ?_)))), fun Φ m n0 ht h1 h2 hΨ => rd_begR O ht h1 h2 (fun m1 z1 e1 y1 => k3 Φ m1 y1 (fun m2 f2 y2 => l3 Φ m2 f (by omega) y2 (fun m3 f3 y3 => ?_)))⟩
      · exact endF Φ m m3 x2 a2 (zo_t z1 (zo_t f2.1 f3.1)) (by rw [f3.2 1 (by omega), f2.2 1 (by omega)]; exact e1) y3 hΦ
      · exact endR Φ m m3 x2 a2 l1.1 (zo_t z1 (zo_t f2.1 f3.1)) (by rw [f3.2 5 (by omega), f2.2 5 (by omega)]; exact e1) y3 hΨ
  · refine ⟨.inr (x1, a1), k1, fun Φ m n0 ht h1 h2 hΦ => wkI Φ m n0 ht h1 h2 (fun m1 z1 e1 y1 => k2 _ m1 y1 (fun m2 f2 y2 => zc0 ⟨by decide, fun x => absurd rfl x, fun _ => ?_⟩)), fun Φ m n0 ht h1 h2 hΨ => rd_begR O ht h1 h2 (fun m1 z1 e1 y1 => k3 Φ m1 y1 (fun m2 f2 y2 => d106 (prX_D y2 k1.1) ?_ f (by omega)))⟩
    · exact endF Φ m m2 x1 a1 (zo_t z1 f2.1) (by rw [f2.2 1 (by omega)]; exact e1) y2 hΦ
    · exact endR Φ m m2 x1 a1 k1.1 (zo_t z1 f2.1) (by rw [f2.2 5 (by omega)]; exact e1) y2 hΨ
end WKS
