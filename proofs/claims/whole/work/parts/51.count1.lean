/-! RINGS COUNTED: the class -/
def zJm (L : Nat) (a b : Nat → Nat) (u v : Nat) : Int := if u = v then 0 else (zjn L a b u v : Int)
theorem zJm_sym {L : Nat} {a b : Nat → Nat} : ∀ u v, zJm L a b u v = zJm L a b v u := by
  intro u v
  unfold zJm
  by_cases e : u = v
  · rw [if_pos e, if_pos e.symm]
  · rw [if_neg e, if_neg (Ne.symm e), zjn_sym]
theorem zJm_nn {L : Nat} {a b : Nat → Nat} : ∀ u v, 0 ≤ zJm L a b u v := by
  intro u v
  unfold zJm
  split <;> omega
theorem zJm_le {L : Nat} {a b : Nat → Nat} {u v : Nat} : zJm L a b u v ≤ L := by
  unfold zJm
  have := zjn_le (L := L) (a := a) (b := b) (u := u) (v := v)
  split <;> omega
theorem zs_one : ∀ {n x : Nat} {F : Nat → Int}, x < n → (∀ v, v < n → v ≠ x → F v = 0) → zs n F = F x
  | 0, x, F, h, _ => by omega
  | n + 1, x, F, h, h' => by
    unfold zs
    by_cases e : x = n
    · subst e
      rw [zs_ext (G := fun _ => 0) (fun v hv => h' v (by omega) (by omega)), zs_0]; omega
    · rw [zs_one (show x < n by omega) (fun v hv hne => h' v (by omega) hne), h' n (by omega) (Ne.symm e)]; omega
theorem zs_split {n x : Nat} {F : Nat → Int} (hx : x < n) : zs n F = zs n (fun v => if v = x then 0 else F v) + F x := by
  have e1 : zs n F = zs n (fun v => (if v = x then 0 else F v) + (if v = x then F v else 0)) := zs_ext (fun v _ => by
    by_cases e : v = x
    · simp [e]
    · simp [e])
  rw [e1, zs_add]
  congr 1
  rw [zs_one hx (fun v _ hne => if_neg hne), if_pos rfl]
/-- who is near: rows 4, 5, 6 -/
def zNJ (N : Nat) (J : Nat → Nat → Int) (G4 G5 G6 : Nat → Int) : Prop := (∀ u v, u < 60 → v < 60 → G4 (60 * u + v) = J u v) ∧ (∀ u v, 0 ≤ J u v ∧ J u v ≤ 1000) ∧ ∀ u, u < N → ∃ n : Nat, G6 u = n ∧ n ≤ 60 ∧ (∀ i, i < n → 0 ≤ G5 (60 * u + i) ∧ G5 (60 * u + i) < N) ∧ ∀ f : Nat → Int, zs n (fun i => f (G5 (60 * u + i)).toNat) = zs N (fun v => if J u v ≠ 0 then f v else 0)
def zJ1 (J : Nat → Nat → Int) (u v : Nat) : Nat → Nat → Int := fun x y => if x = u ∧ y = v then J u v + 1 else J x y
def cN (m : aj_M) (G4 G5 G6 : Nat → Int) : aj_M := aj_ur (aj_ur (aj_ur m [4, 8, 0] G4) [5, 8, 0] G5) [6, 8, 0] G6
theorem cN_off {m : aj_M} {r : List Nat} {G4 G5 G6 : Nat → Int} (h4 : r ≠ [4, 8, 0]) (h5 : r ≠ [5, 8, 0]) (h6 : r ≠ [6, 8, 0]) : cN m G4 G5 G6 r = m r := by simp [cN, zr_ur, h4, h5, h6]
theorem cN_r {m : aj_M} {G4 G5 G6 : Nat → Int} : cN m G4 G5 G6 [4, 8, 0] = G4 ∧ cN m G4 G5 G6 [5, 8, 0] = G5 ∧ cN m G4 G5 G6 [6, 8, 0] = G6 := by simp [cN, zr_ur]
theorem cN_w4 {m : aj_M} {G4 G5 G6 : Nat → Int} {j : Nat} {x : Int} : aj_u (cN m G4 G5 G6) [4, 8, 0] j x = cN m (st G4 j x) G5 G6 := by simp [cN, zu_push]
theorem cN_w5 {m : aj_M} {G4 G5 G6 : Nat → Int} {j : Nat} {x : Int} : aj_u (cN m G4 G5 G6) [5, 8, 0] j x = cN m G4 (st G5 j x) G6 := by simp [cN, zu_push]
theorem cN_w6 {m : aj_M} {G4 G5 G6 : Nat → Int} {j : Nat} {x : Int} : aj_u (cN m G4 G5 G6) [6, 8, 0] j x = cN m G4 G5 (st G6 j x) := by simp [cN, zu_push]
theorem pX8_joinOnce {f : Nat} {Φ : aj_M → Prop} {m : aj_M} {N : Nat} {J : Nat → Nat → Int} {G4 G5 G6 : Nat → Int} (hN : N ≤ 60) (H : zNJ N J G4 G5 G6) {u v : Nat} (hu : u < N) (hv : v < N) (hJ : J u v < 1000) (hK : ∀ G4' G5' G6' : Nat → Int, zNJ N (zJ1 J u v) G4' G5' G6' → Φ (cN m G4' G5' G6')) : wX8_joinOnce f Φ [8, 0] u v (cN m G4 G5 G6) := by
  obtain ⟨h1, h2, h3⟩ := H
  obtain ⟨n, n1, n2, n3, n4⟩ := h3 u hu
  have et : ((u : Int) * 60 + (v : Int)).toNat = 60 * u + v := by omega
  have hj := h1 u v (by omega) (by omega)
  have hJ0 := (h2 u v).1
  unfold wX8_joinOnce
  simp only [cN_r, et, hj, Int.toNat_natCast, n1]
  have g4 : ∀ x y, x < 60 → y < 60 → st G4 (60 * u + v) (J u v + 1) (60 * x + y) = zJ1 J u v x y := by
    intro x y hx hy
    unfold zJ1
    by_cases e : x = u ∧ y = v
    · rw [if_pos e, e.1, e.2, st_at]
    · rw [if_neg e, st_ne (by omega), h1 x y hx hy]
  have j2 : ∀ x y, 0 ≤ zJ1 J u v x y ∧ zJ1 J u v x y ≤ 1000 := by
    intro x y
    unfold zJ1
    split
    · omega
    · exact h2 x y
  -- an edge that was there
  have old : J u v ≠ 0 → Φ (cN m (st G4 (60 * u + v) (J u v + 1)) G5 G6) := by
    intro hne
    refine hK _ _ _ ⟨g4, j2, fun x hx => ?_⟩
    obtain ⟨n', a1, a2, a3, a4⟩ := h3 x hx
    refine ⟨n', a1, a2, a3, fun f => ?_⟩
    rw [a4 f]
    refine zs_ext (fun y _ => ?_)
    unfold zJ1
    by_cases e : x = u ∧ y = v
    · rw [if_pos e, e.1, e.2, if_pos hne, if_pos (by omega)]
    · rw [if_neg e]
  refine ⟨⟨by omega, by omega⟩, ⟨by omega, by omega⟩, fun c => ⟨⟨by omega, by omega⟩, ⟨by omega, by omega⟩, ?_⟩, fun c => ⟨⟨by omega, by omega⟩, ⟨by omega, by omega⟩, fun c2 => ?_, fun c2 => ⟨⟨by omega, by omega⟩, ⟨by omega, by omega⟩, ?_⟩⟩⟩
  · rintro _ rfl
    rw [cN_w4]
    exact old c
  · -- there is room
    exfalso
    have e1 := n4 (fun _ => 1)
    have e2 : ∀ n, zs n (fun _ => (1 : Int)) = n := by
      intro n
      induction n with
      | zero => rfl
      | succ n ih =>
        show zs n (fun _ => (1 : Int)) + 1 = _
        rw [ih]; omega
    rw [e2] at e1
    have e3 : zs N (fun y => if J u y ≠ 0 then (1 : Int) else 0) ≤ zs N (fun y => if y = v then 0 else 1) := zs_le (fun y _ => by
      by_cases ey : y = v
      · rw [ey, if_neg (by omega), if_pos rfl]; exact Int.le_refl _
      · rw [if_neg ey]; split <;> omega)
    have e4 := zs_split (n := N) (x := v) (F := fun _ => (1 : Int)) hv
    rw [e2] at e4
    omega
  · rintro _ rfl
    have et2 : ((u : Int) * 60 + (n : Int)).toNat = 60 * u + n := by omega
    rw [cN_w5, et2]
    simp only [cN_r, n1]
    refine ⟨⟨by omega, by omega⟩, ⟨by omega, by omega⟩, ?_⟩
    rintro _ rfl
    rw [cN_w6]
    simp only [cN_r, hj]
    refine ⟨⟨by omega, by omega⟩, ⟨by omega, by omega⟩, ?_⟩
    rintro _ rfl
    rw [cN_w4]
    refine hK _ _ _ ⟨g4, j2, fun x hx => ?_⟩
    by_cases ex : x = u
    · subst ex
      refine ⟨n + 1, by rw [st_at]; rfl, by omega, fun i hi => ?_, fun f => ?_⟩
      · by_cases ei : i = n
        · subst ei; rw [st_at]; omega
        · rw [st_ne (by omega)]; exact n3 i (by omega)
      · show zs n (fun i => f (st G5 (60 * x + n) v (60 * x + i)).toNat) + f (st G5 (60 * x + n) v (60 * x + n)).toNat = _
        rw [st_at, Int.toNat_natCast, zs_ext (G := fun i => f (G5 (60 * x + i)).toNat) (fun i hi => by rw [st_ne (by omega)]), n4 f]
        rw [zs_split (n := N) (x := v) (F := fun y => if zJ1 J x v x y ≠ 0 then f y else 0) hv]
        have e1 : zJ1 J x v x v = J x v + 1 := if_pos ⟨rfl, rfl⟩
        rw [show (if zJ1 J x v x v ≠ 0 then f v else 0) = f v by rw [e1, if_pos (by omega)]]
        congr 1
        refine zs_ext (fun y _ => ?_)
        by_cases ey : y = v
        · rw [if_pos ey, ey, if_neg (by omega)]
        · have e9 : zJ1 J x v x y = J x y := if_neg (by omega)
          rw [if_neg ey, e9]
    · obtain ⟨n', a1, a2, a3, a4⟩ := h3 x hx
      have e5 : ∀ i, i < n' → st G5 (60 * u + n) v (60 * x + i) = G5 (60 * x + i) := fun i hi => st_ne (by omega)
      refine ⟨n', by rw [st_ne ex]; exact a1, a2, fun i hi => by rw [e5 i hi]; exact a3 i hi, fun f => ?_⟩
      rw [zs_ext (G := fun i => f (G5 (60 * x + i)).toNat) (fun i hi => by rw [e5 i hi]), a4 f]
      refine zs_ext (fun y _ => ?_)
      have e9 : zJ1 J u v x y = J x y := if_neg (by omega)
      rw [e9]
theorem zJm_succ {L : Nat} {a b : Nat → Nat} : (a L = b L → zJm (L + 1) a b = zJm L a b) ∧ (a L ≠ b L → zJm (L + 1) a b = zJ1 (zJ1 (zJm L a b) (a L) (b L)) (b L) (a L)) := by
  constructor
  · intro e
    funext x y
    unfold zJm
    by_cases exy : x = y
    · rw [if_pos exy, if_pos exy]
    · rw [if_neg exy, if_neg exy, zjn_succ, if_neg (by omega)]; rfl
  · intro e
    funext x y
    have L1 : zJm (L + 1) a b x y = zJm L a b x y + (if x ≠ y ∧ ((a L = x ∧ b L = y) ∨ (a L = y ∧ b L = x)) then 1 else 0) := by
      unfold zJm
      by_cases exy : x = y
      · rw [if_pos exy, if_pos exy, if_neg (fun h => h.1 exy)]; rfl
      · rw [if_neg exy, if_neg exy, zjn_succ]
        by_cases h : (a L = x ∧ b L = y) ∨ (a L = y ∧ b L = x)
        · rw [if_pos h, if_pos ⟨exy, h⟩]; omega
        · rw [if_neg h, if_neg (fun h' => h h'.2)]; omega
    rw [L1]
    have Z1 : ∀ x y, zJ1 (zJm L a b) (a L) (b L) x y = zJm L a b x y + (if x = a L ∧ y = b L then 1 else 0) := by
      intro x y
      unfold zJ1
      by_cases h : x = a L ∧ y = b L
      · rw [if_pos h, if_pos h, h.1, h.2]
      · rw [if_neg h, if_neg h]; omega
    have Z2 : zJ1 (zJ1 (zJm L a b) (a L) (b L)) (b L) (a L) x y = zJ1 (zJm L a b) (a L) (b L) x y + (if x = b L ∧ y = a L then 1 else 0) := by
      show (if x = b L ∧ y = a L then zJ1 (zJm L a b) (a L) (b L) (b L) (a L) + 1 else zJ1 (zJm L a b) (a L) (b L) x y) = _
      by_cases h : x = b L ∧ y = a L
      · rw [if_pos h, if_pos h, h.1, h.2]
      · rw [if_neg h, if_neg h]; omega
    rw [Z2, Z1]
    by_cases h1 : x = b L ∧ y = a L
    · have h2 : ¬ (x = a L ∧ y = b L) := by omega
      rw [if_pos h1, if_neg h2, if_pos (by omega)]; omega
    · rw [if_neg h1]
      by_cases h2 : x = a L ∧ y = b L
      · rw [if_pos h2, if_pos (by omega)]; omega
      · rw [if_neg h2, if_neg (by omega)]; omega
def zC0 (m m' : aj_M) : Prop := (∀ r, r ∉ ([[8, 0], [4, 8, 0], [5, 8, 0], [6, 8, 0], [7, 8, 0], [8, 8, 0]] : List (List Nat)) → m' r = m r) ∧ ∀ j, j ≠ 9 → m' [8, 0] j = m [8, 0] j
theorem zC0_tr {m m' m'' : aj_M} (h : zC0 m m') (h' : zC0 m' m'') : zC0 m m'' := ⟨fun r hr => (h'.1 r hr).trans (h.1 r hr), fun j hj => (h'.2 j hj).trans (h.2 j hj)⟩
theorem zC0_ur {m : aj_M} {p : List Nat} {g : Nat → Int} (hp : p ∈ ([[4, 8, 0], [5, 8, 0], [6, 8, 0], [7, 8, 0], [8, 8, 0]] : List (List Nat))) : zC0 m (aj_ur m p g) := by
  have hne : p ≠ [8, 0] := by
    simp only [List.mem_cons, List.not_mem_nil, or_false] at hp
    rcases hp with rfl | rfl | rfl | rfl | rfl <;> decide
  refine ⟨fun r hr => aj_ur_off (fun e => hr ?_), fun j _ => by rw [aj_ur_off (Ne.symm hne)]⟩
  rw [e]
  simp only [List.mem_cons, List.not_mem_nil, or_false] at hp ⊢
  rcases hp with rfl | rfl | rfl | rfl | rfl <;> decide
theorem zC0_cN {m : aj_M} {G4 G5 G6 : Nat → Int} : zC0 m (cN m G4 G5 G6) := zC0_tr (zC0_tr (zC0_ur (by decide)) (zC0_ur (by decide))) (zC0_ur (by decide))
theorem zC0_9 {m : aj_M} {x : Int} : zC0 m (aj_u m [8, 0] 9 x) := ⟨fun r hr => aj_u_off (fun e => hr (by rw [e]; decide)), fun j hj => by rw [aj_u_at, if_neg hj]⟩
theorem pX8_spreadOut {f : Nat} {Φ : aj_M → Prop} {m : aj_M} {N L : Nat} {a b s e : Nat → Nat} (H : nC m [3, 8, 0] N L a b s e) (hf : 4000 ≤ f) (hK : ∀ (m' : aj_M) (G4 G5 G6 : Nat → Int), zC0 m m' → m' [8, 0] 9 = 0 → m' [4, 8, 0] = G4 → m' [5, 8, 0] = G5 → m' [6, 8, 0] = G6 → zNJ N (zJm L a b) G4 G5 G6 → Φ m') : wX8_spreadOut f Φ [8, 0] m := by
  obtain ⟨g0, g1, gN1, gN, gL, gE, g2, g8, g9⟩ := H
  have hab := gE.1
  unfold wX8_spreadOut
  refine pJ7_fill (by omega) (by decide) ?_
  refine pJ7_fill (by omega) (by decide) ?_
  rintro _ rfl
  generalize hG4 : (fun k => if k < 3600 then (0 : Int) else m (4 :: [8, 0]) k) = G4
  generalize hM : aj_u m [8, 0] 9 0 = M
  have hM9 : M [8, 0] 9 = 0 := by rw [← hM, aj_u_at, if_pos rfl]
  have hMc : zC0 m M := by rw [← hM]; exact zC0_9
  have M2 : M [2, 3, 8, 0] = m [2, 3, 8, 0] := by rw [← hM, aj_u_off (by decide)]
  have M3 : M [3, 3, 8, 0] = m [3, 3, 8, 0] := by rw [← hM, aj_u_off (by decide)]
  have Mn : M [3, 8, 0] = m [3, 8, 0] := by rw [← hM, aj_u_off (by decide)]
  generalize hG6 : (fun k => if k < 60 then (0 : Int) else aj_ur m (4 :: [8, 0]) G4 (6 :: [8, 0]) k) = G6
  have e0 : aj_u (aj_ur (aj_ur m (4 :: [8, 0]) G4) (6 :: [8, 0]) G6) [8, 0] 9 0 = cN M G4 (M [5, 8, 0]) G6 := by
    rw [zu_push, if_neg (by decide), zu_push, if_neg (by decide), hM]
    unfold cN
    rw [zm_ur_id (p := [5, 8, 0]) (fun k => by rw [zr_ur, if_neg (by decide)])]
  rw [e0]
  have first : zNJ N (zJm 0 a b) G4 (M [5, 8, 0]) G6 := by
    have hz : ∀ u v, zJm 0 a b u v = 0 := fun u v => by unfold zJm; split <;> rfl
    refine ⟨fun u v hu hv => ?_, fun u v => by rw [hz]; omega, fun u hu => ⟨0, ?_, by omega, fun i hi => by omega, fun f => ?_⟩⟩
    · rw [← hG4, hz]; show (if 60 * u + v < 3600 then (0 : Int) else _) = 0; rw [if_pos (by omega)]
    · rw [← hG6]; show (if u < 60 then (0 : Int) else _) = ((0 : Nat) : Int); rw [if_pos (by omega)]; rfl
    · show (0 : Int) = _
      rw [zs_ext (G := fun _ => 0) (fun v _ => by rw [hz, if_neg (by simp)]), zs_0]
  refine zfor (H := fun k l σ => hX8_spreadOut_23 f Φ k [8, 0] l σ) (N := L) (fun l σ => ∃ G4 G5 G6 : Nat → Int, σ = cN M G4 G5 G6 ∧ zNJ N (zJm l a b) G4 G5 G6) ?_ f 0 _ (by omega) (by omega) ⟨_, _, _, rfl, first⟩
  rintro k l σ hl ⟨G4, G5, G6, rfl, HJ⟩ hn
  have rn : ∀ G4 G5 G6 : Nat → Int, cN M G4 G5 G6 (3 :: [8, 0]) = m [3, 8, 0] := fun G4 G5 G6 => by rw [cN_off (by decide) (by decide) (by decide)]; exact Mn
  have r2 : ∀ G4 G5 G6 : Nat → Int, cN M G4 G5 G6 (2 :: 3 :: [8, 0]) = m [2, 3, 8, 0] := fun G4 G5 G6 => by rw [cN_off (by decide) (by decide) (by decide)]; exact M2
  have r3 : ∀ G4 G5 G6 : Nat → Int, cN M G4 G5 G6 (3 :: 3 :: [8, 0]) = m [3, 3, 8, 0] := fun G4 G5 G6 => by rw [cN_off (by decide) (by decide) (by decide)]; exact M3
  unfold hX8_spreadOut_23
  rw [rn, r2, r3, g1]
  refine ⟨⟨by omega, by omega⟩, ⟨by omega, by omega⟩, fun c => ?_, fun c => ?_⟩
  · have el : l = L := by omega
    subst el
    refine hK _ G4 G5 G6 (zC0_tr hMc zC0_cN) ?_ cN_r.1 cN_r.2.1 cN_r.2.2 HJ
    rw [cN_off (by decide) (by decide) (by decide)]; exact hM9
  · have hl' : l < L := by omega
    have h2 := g2 l hl'
    have hN' := hab l hl'
    have h2a : m [2, 3, 8, 0] l = a l := h2.1
    have h2b : m [3, 3, 8, 0] l = b l := h2.2
    rw [Int.toNat_natCast, h2a, h2b]
    refine ⟨⟨by omega, by omega⟩, ⟨by omega, by omega⟩, ⟨by omega, by omega⟩, ⟨by omega, by omega⟩, fun c2 => ?_, fun c2 => ?_⟩
    · refine hn (by omega) _ ⟨G4, G5, G6, rfl, ?_⟩
      rw [zJm_succ.1 (by omega)]; exact HJ
    · have hb1 := zJm_le (L := l) (a := a) (b := b) (u := a l) (v := b l)
      have hb2 := zJm_le (L := l) (a := a) (b := b) (u := b l) (v := a l)
      refine pX8_joinOnce gN HJ hN'.1 hN'.2 (by omega) (fun G4 G5 G6 HJ' => ?_)
      refine pX8_joinOnce gN HJ' hN'.2 hN'.1 ?_ (fun G4 G5 G6 HJ'' => ?_)
      · unfold zJ1
        rw [if_neg (by omega)]; omega
      · refine hn (by omega) _ ⟨G4, G5, G6, rfl, ?_⟩
        rw [zJm_succ.2 (by omega)]; exact HJ''
