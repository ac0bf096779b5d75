/-! IMAGES -/
theorem zty_ext {c d : Nat → Int} : ∀ (n i : Nat) (ts : List Bool), (∀ j, i ≤ j → j < i + n → d j = c j) → zty d i n ts = zty c i n ts
  | 0, _, _, _ => rfl
  | n + 1, i, ts, h => by
    unfold zty
    rw [h i (Nat.le_refl _) (by omega)]
    cases ztc (c i) ts with
    | none => rfl
    | some ts' =>
      show (if ts'.length ≤ 60 then zty d (i + 1) n ts' else none) = (if ts'.length ≤ 60 then zty c (i + 1) n ts' else none)
      rw [zty_ext n (i + 1) ts' (fun j h1 h2 => h j (by omega) (by omega))]
def zE (A B : Nat → Int) : Prop := ∀ j, j < 1105 → B j = A j
theorem zE_LawOK {A B : Nat → Int} (h : zE A B) {lw : Nat} {ty : Bool} (hl : lw < 2) (k : zLawOK A lw ty) : zLawOK B lw ty := by
  unfold zLawOK at k ⊢
  rw [h (7 + lw) (by omega), h (9 + lw) (by omega), h (11 + lw) (by omega), h 204 (by decide)]
  rcases k with k | ⟨k1, fr, many, k2, k3, k4, k5, k6, k7⟩
  · exact Or.inl k
  · refine Or.inr ⟨k1, fr, many, k2, k3, k4, k5, k6, ?_⟩
    rw [← k7]
    exact zty_ext many fr [] (fun j h1 h2 => h (205 + j) (by omega))
theorem zE_A {A B : Nat → Int} (h : zE A B) (hA : wA A) : wA B := by
  obtain ⟨a1, a2, a3, a4, a5, a6, a7, a8, a9, a10⟩ := hA
  unfold wA
  rw [h 0 (by decide), h 1 (by decide), h 2 (by decide), h 3 (by decide), h 4 (by decide), h 5 (by decide), h 6 (by decide), h 61 (by decide), h 62 (by decide), h 204 (by decide)]
  refine ⟨a1, a2, a3, fun j hj => ?_, a5, a6, a7, a8, zE_LawOK h (by decide) a9, zE_LawOK h (by decide) a10⟩
  rw [h (13 + j) (by omega), h (25 + j) (by omega), h (37 + j) (by omega), h (49 + j) (by omega)]
  exact a4 j hj
theorem zE_P {A B : Nat → Int} (h : zE A B) (hA : wA A) {m : aj_M} {p : List Nat} (k : wP m p A) : wP m p B := by
  have h6 := hA.2.2.1
  have h204 := hA.2.2.2.2.2.2.2.1
  obtain ⟨k1, k2, k3, k4, ⟨H, e1, e2, e3⟩, k6, k7⟩ := k
  unfold wP
  rw [h 0 (by decide), h 1 (by decide), h 2 (by decide), h 3 (by decide), h 4 (by decide), h 5 (by decide), h 6 (by decide)]
  refine ⟨k1, k2, k3, k4, ⟨H, e1, e2, fun j hj => ?_⟩, fun j hj => ?_, ?_⟩
  · rw [h (37 + j) (by omega)]
    exact e3 j hj
  · rw [h (13 + j) (by omega), h (25 + j) (by omega)]
    exact k6 j hj
  · unfold wPl at k7 ⊢
    rw [h 204 (by decide), h 7 (by decide), h 8 (by decide), h 9 (by decide), h 10 (by decide), h 11 (by decide), h 12 (by decide)]
    refine ⟨k7.1, fun i hi => ?_, k7.2.2⟩
    rw [h (205 + i) (by omega)]
    exact k7.2.1 i hi
def zImg (A : Nat → Int) (i : Nat) : Nat → Int := fun j => A (1105 * (i + 1) + j)
def zIg (A : Nat → Int) (i : Nat) : Nat → Int := fun j => if 1105 * (i + 1) ≤ j ∧ j < 1105 * (i + 1) + 1105 then A (j - 1105 * (i + 1)) else A j
def zRs (A : Nat → Int) (i : Nat) : Nat → Int := fun j => if j < 1105 then (if j = 63 then 0 else A (1105 * (i + 1) + j)) else A j
theorem zIg_in {A : Nat → Int} {i j : Nat} (h : j < 1105) : zImg (zIg A i) i j = A j := by
  show (if 1105 * (i + 1) ≤ 1105 * (i + 1) + j ∧ 1105 * (i + 1) + j < 1105 * (i + 1) + 1105 then A (1105 * (i + 1) + j - 1105 * (i + 1)) else A (1105 * (i + 1) + j)) = A j
  rw [if_pos (by omega)]
  exact congrArg A (by omega)
theorem zIg_o {A : Nat → Int} {i k j : Nat} (h : j < 1105) (hk : k ≠ i) : zImg (zIg A i) k j = zImg A k j := by
  show (if 1105 * (i + 1) ≤ 1105 * (k + 1) + j ∧ 1105 * (k + 1) + j < 1105 * (i + 1) + 1105 then A (1105 * (k + 1) + j - 1105 * (i + 1)) else A (1105 * (k + 1) + j)) = A (1105 * (k + 1) + j)
  rw [if_neg (by omega)]
theorem zIg_0 {A : Nat → Int} {i : Nat} : zE A (zIg A i) := fun j hj => by
  show (if 1105 * (i + 1) ≤ j ∧ j < 1105 * (i + 1) + 1105 then A (j - 1105 * (i + 1)) else A j) = A j
  rw [if_neg (by omega)]
theorem zRs_i {A : Nat → Int} {i k : Nat} : zE (zImg A k) (zImg (zRs A i) k) := fun j hj => by
  show (if 1105 * (k + 1) + j < 1105 then _ else A (1105 * (k + 1) + j)) = A (1105 * (k + 1) + j)
  rw [if_neg (by omega)]
theorem zRs_0 {A : Nat → Int} {i j : Nat} (hj : j < 1105) (h : j ≠ 63) : zRs A i j = zImg A i j := by
  show (if j < 1105 then (if j = 63 then 0 else A (1105 * (i + 1) + j)) else A j) = A (1105 * (i + 1) + j)
  rw [if_pos hj, if_neg h]
theorem zRs_E {A : Nat → Int} {i : Nat} : zE (tup (zImg A i) 63 0) (zRs A i) := fun j hj => by
  by_cases c : j = 63
  · rw [c, tup_s]
    rfl
  · rw [tup_o c, zRs_0 hj c]
/-- the class's images, the reference's -/
def zIC (m : aj_M) (I : Nat → Bool) (A : Nat → Int) : Prop := ∀ i : Nat, i < 2 → m [i, 6, 0] 2 = (if I i then 1 else 0) ∧ (I i = true → wP m [0, i, 6, 0] (zImg A i) ∧ wS m [1, i, 6, 0] (zImg A i))
def zIR (m : aj_M) (I : Nat → Bool) : Prop := ∀ i : Nat, i < 2 → m [2, 1] i = if I i then 1 else 0
def zIA (I : Nat → Bool) (A : Nat → Int) : Prop := ∀ i : Nat, i < 2 → I i = true → wA (zImg A i)
def zIu (I : Nat → Bool) (i : Nat) : Nat → Bool := fun k => if k = i then true else I k
theorem zIu_s {I : Nat → Bool} {i : Nat} : zIu I i i = true := if_pos rfl
theorem zIu_o {I : Nat → Bool} {i k : Nat} (h : k ≠ i) : zIu I i k = I k := if_neg h
theorem zIA_u {I : Nat → Bool} {A : Nat → Int} (h : zIA I A) (hA : wA A) (i : Nat) : zIA (zIu I i) (zIg A i) := by
  intro k hk e
  by_cases c : k = i
  · subst c
    exact zE_A (fun j hj => zIg_in hj) hA
  · rw [zIu_o c] at e
    exact zE_A (fun j hj => zIg_o hj c) (h k hk e)
def zIl (i : Nat) : List (List Nat) := [i, 6, 0] :: [1, i, 6, 0] :: [0, 1, i, 6, 0] :: zcpl [0, i, 6, 0]
theorem zcN_i {i : Nat} (hi : i < 2) : zcN [0, i, 6, 0] [1, 0] ∧ zcN [1, 0] [0, i, 6, 0] := by
  have : i = 0 ∨ i = 1 := by omega
  rcases this with rfl | rfl
  · exact ⟨by unfold zcN; decide, by unfold zcN; decide⟩
  · exact ⟨by unfold zcN; decide, by unfold zcN; decide⟩
theorem wP_zo {m m' : aj_M} {p : List Nat} {A : Nat → Int} (hP : wP m p A) (h : ∀ r, r ∈ zcpl p → m' r = m r) : wP m' p A :=
  wP_of hP (fun j _ => by rw [h p (by simp [zcpl])]) (h _ (by simp [zcpl])) (h _ (by simp [zcpl])) (h _ (by simp [zcpl])) (h _ (by simp [zcpl])) (h _ (by simp [zcpl])) (h _ (by simp [zcpl])) (h _ (by simp [zcpl])) (h _ (by simp [zcpl]))
theorem pX11_image {f : Nat} {Φ : Int → aj_M → Prop} {m : aj_M} {A : Nat → Int} {I : Nat → Bool} {v : Int} (hA : wA A) (hP : wP m [1, 0] A) (hS : wS m [2, 0] A) (hIA : zIA I A) (hI : zIC m I A) (hv : rI v) (hbad : ¬ (0 ≤ v ∧ v < 2) → Φ (-2) m) (h : ∀ i : Nat, v = i → i < 2 → ∀ m', zo (zIl i) m m' → zIC m' (zIu I i) (zIg A i) → Φ 0 m') : wX11_image f Φ [0] v m := by
  refine ⟨hv, fun c => hbad (by omega), fun c => ⟨hv, fun d => ⟨⟨by omega, by omega⟩, ?_⟩, fun d => hbad (by omega)⟩⟩
  obtain ⟨i, rfl⟩ : ∃ i : Nat, v = i := ⟨v.toNat, by omega⟩
  have hi : i < 2 := by omega
  have hi2 : i = 0 ∨ i = 1 := by omega
  rw [Int.toNat_natCast]
  refine pX6_copyFrom hA hP (zcN_i hi).1 ?_
  intro m1 z1 p1 _ _ _
  refine pX9_copyFrom (by simp) (by simp) (by simp) ?_
  intro m2 z2 s2
  rintro m3 rfl
  have hS1 : wS m1 [2, 0] A := wS_off hS (z1 _ (by rcases hi2 with rfl | rfl <;> decide)) (z1 _ (by rcases hi2 with rfl | rfl <;> decide))
  have s2 := s2 A hA.2.2.1.2 hS1
  have hz : zo (zIl i) m (aj_u m2 [i, 6, 0] 2 1) := by
    intro p hp
    simp only [zIl, List.mem_cons, not_or] at hp
    rw [zu_off hp.1, z2 p (by simp [hp.2.1, hp.2.2.1]), z1 p hp.2.2.2]
  refine h i rfl hi _ hz (fun k hk => ?_)
  by_cases c : k = i
  · subst c
    rw [zu_tup, tup_s, zIu_s, if_pos rfl]
    refine ⟨rfl, fun _ => ⟨?_, ?_⟩⟩
    · refine zE_P (A := A) (fun j hj => zIg_in hj) hA (wP_zo p1 (fun r hr => ?_))
      rcases hi2 with rfl | rfl
      · have q : ∀ r ∈ zcpl [0, 0, 6, 0], r ≠ [0, 6, 0] ∧ r ∉ [[1, 0, 6, 0], [0, 1, 0, 6, 0]] := by decide
        rw [zu_off (q r hr).1, z2 r (q r hr).2]
      · have q : ∀ r ∈ zcpl [0, 1, 6, 0], r ≠ [1, 6, 0] ∧ r ∉ [[1, 1, 6, 0], [0, 1, 1, 6, 0]] := by decide
        rw [zu_off (q r hr).1, z2 r (q r hr).2]
    · exact wS_ext (A := A) (fun j hj => zIg_in (by omega)) hA.2.2.1.2 (wS_off s2 (zu_off (by simp)) (zu_off (by simp)))
  · rw [zIu_o c]
    obtain ⟨k1, k2⟩ := hI k hk
    have hk2 : k = 0 ∨ k = 1 := by omega
    have of : ∀ r, r ∈ [k, 6, 0] :: [1, k, 6, 0] :: [0, 1, k, 6, 0] :: zcpl [0, k, 6, 0] → aj_u m2 [i, 6, 0] 2 1 r = m r := by
      intro r hr
      refine hz r ?_
      rcases hi2 with rfl | rfl <;> rcases hk2 with rfl | rfl
      · exact absurd rfl c
      · have q : ∀ r ∈ [1, 6, 0] :: [1, 1, 6, 0] :: [0, 1, 1, 6, 0] :: zcpl [0, 1, 6, 0], r ∉ zIl 0 := by decide
        exact q r hr
      · have q : ∀ r ∈ [0, 6, 0] :: [1, 0, 6, 0] :: [0, 1, 0, 6, 0] :: zcpl [0, 0, 6, 0], r ∉ zIl 1 := by decide
        exact q r hr
      · exact absurd rfl c
    refine ⟨by rw [of _ (by simp)]; exact k1, fun e => ⟨?_, ?_⟩⟩
    · exact zE_P (A := zImg A k) (fun j hj => zIg_o hj c) (hIA k hk e) (wP_zo (k2 e).1 (fun r hr => of r (List.mem_cons_of_mem _ (List.mem_cons_of_mem _ (List.mem_cons_of_mem _ hr)))))
    · exact wS_ext (A := zImg A k) (fun j hj => zIg_o (by omega) c) (hIA k hk e).2.2.1.2 (wS_off (k2 e).2 (of _ (by simp)) (of _ (by simp)))
/-- restore, the class -/
def zRl : List (List Nat) := [0] :: [5, 0] :: [2, 0] :: [0, 2, 0] :: zcpl [1, 0]
theorem zRs_A {I : Nat → Bool} {A : Nat → Int} {i : Nat} (hi : i < 2) (hIA : zIA I A) (e : I i = true) : wA (zRs A i) ∧ zHA (zRs A i) ∧ zIA I (zRs A i) := by
  have hA := hIA i hi e
  refine ⟨zE_A zRs_E (wA_ext (fun j hj => tup_o (by omega)) hA), ⟨?_, fun k hk => ?_⟩, fun k hk ek => zE_A zRs_i (hIA k hk ek)⟩
  · have e63 : zRs A i 63 = 0 := rfl
    omega
  · have e63 : zRs A i 63 = 0 := rfl
    omega
theorem pX11_restore {f : Nat} {Φ : Int → aj_M → Prop} {m : aj_M} {A : Nat → Int} {I : Nat → Bool} {v : Int} (hIA : zIA I A) (hI : zIC m I A) (hH : ∃ nx : Nat, nx < 10 ∧ m [5, 0] 1 = nx) (hv : rI v) (hbad : ¬ (0 ≤ v ∧ v < 2) → Φ (-2) m) (hno : ∀ i : Nat, v = i → i < 2 → I i = false → Φ (-5) m) (h : ∀ i : Nat, v = i → i < 2 → I i = true → ∀ m', zo zRl m m' → (∀ k, k ≠ 12 → m' [0] k = m [0] k) → m' [0] 12 = 1 → wP m' [1, 0] (zRs A i) → wS m' [2, 0] (zRs A i) → zHC m' (zRs A i) → m' [1, 0] 10 = -1 → Φ 0 m') : wX11_restore f Φ [0] v m := by
  refine ⟨hv, fun c => hbad (by omega), fun c => ⟨hv, fun d => ⟨⟨by omega, by omega⟩, ?_⟩, fun d => hbad (by omega)⟩⟩
  obtain ⟨i, rfl⟩ : ∃ i : Nat, v = i := ⟨v.toNat, by omega⟩
  have hi : i < 2 := by omega
  have hi2 : i = 0 ∨ i = 1 := by omega
  rw [Int.toNat_natCast]
  obtain ⟨k1, k2⟩ := hI i hi
  rw [k1]
  cases e : I i with
  | false =>
    rw [if_neg (by decide)]
    exact ⟨by decide, fun c => absurd rfl c, fun _ => hno i rfl hi e⟩
  | true =>
    rw [if_pos rfl]
    refine ⟨by decide, fun _ => ⟨⟨by omega, by omega⟩, ?_⟩, fun c => absurd c (by decide)⟩
    obtain ⟨hP, hS⟩ := k2 e
    have hA := hIA i hi e
    refine pX6_copyFrom hA hP (zcN_i hi).2 ?_
    intro m1 z1 p1 q1 _ _
    refine pX9_copyFrom (by simp) (by simp) (by simp) ?_
    intro m2 z2 s2
    have hS1 : wS m1 [1, i, 6, 0] (zImg A i) := wS_off hS (z1 _ (by rcases hi2 with rfl | rfl <;> decide)) (z1 _ (by rcases hi2 with rfl | rfl <;> decide))
    have s2 := s2 _ hA.2.2.1.2 hS1
    rintro m3 rfl m4 rfl
    have off : ∀ p, p ≠ [0] → p ≠ [5, 0] → aj_u (aj_u m2 [5, 0] 2 0) [0] 12 1 p = m2 p := fun p a b => by rw [zu_off a, zu_off b]
    have sP : wP m2 [1, 0] (zImg A i) := wP_zo p1 (fun r hr => z2 r (by
      have q : ∀ r ∈ zcpl [1, 0], r ∉ [[2, 0], [0, 2, 0]] := by decide
      exact q r hr))
    obtain ⟨nx, n1, n2⟩ := hH
    refine h i rfl hi e _ (fun p hp => ?_) (fun k hk => ?_) (by rw [zu_tup, tup_s]) ?_ ?_ ⟨nx, n1, ?_, ?_, fun k hk => ?_⟩ ?_
    · simp only [zRl, List.mem_cons, not_or] at hp
      rw [off p hp.1 hp.2.1, z2 p (by simp [hp.2.2.1, hp.2.2.2.1]), z1 p hp.2.2.2.2]
    · rw [zu_tup, tup_o hk, zu_off (by decide), z2 _ (by decide), z1 _ (by decide)]
    · refine zE_P (A := tup (zImg A i) 63 0) zRs_E (wA_ext (A := zImg A i) (fun j hj => tup_o (by omega)) hA) (zAg_P (A := zImg A i) (B := tup (zImg A i) 63 0) (fun j hj => tup_o (by omega)) hA.2.2.1.2 (wP_zo sP (fun r hr => ?_)))
      have q : ∀ r ∈ zcpl [1, 0], r ≠ [0] ∧ r ≠ [5, 0] := by decide
      exact off r (q r hr).1 (q r hr).2
    · exact wS_ext (fun j hj => zRs_0 (by omega) (by omega)) hA.2.2.1.2 (wS_off s2 (off _ (by decide) (by decide)) (off _ (by decide) (by decide)))
    · rw [zu_off (by decide), zu_tup, tup_o (by decide), z2 _ (by decide), z1 _ (by decide)]
      exact n2
    · rw [zu_off (by decide), zu_tup, tup_s]
      rfl
    · have e63 : zRs A i 63 = 0 := rfl
      omega
    · rw [off _ (by decide) (by decide), z2 _ (by decide)]
      exact q1
/-- the reference -/
theorem hX12_img {f : Nat} {Φ : Int → aj_M → Prop} {m : aj_M} {A : Nat → Int} {i : Nat} (hi : i < 2) (h : Φ 0 (aj_u (aj_ur m [1, 1] (zIg A i)) [2, 1] i 1)) : ∀ (k j : Nat) (X : Nat → Int), j ≤ 1105 → 1105 - j < k → (∀ l, X l = if 1105 * (i + 1) ≤ l ∧ l < 1105 * (i + 1) + j then A (l - 1105 * (i + 1)) else A l) → hX12_image_20 f Φ k [1] i (j : Int) (aj_ur m [1, 1] X) := by
  intro k
  induction k with
  | zero => intro j X h1 h2; omega
  | succ k ih =>
    intro j X h1 h2 h3
    refine ⟨⟨by omega, by omega⟩, fun c => ⟨⟨by omega, by omega⟩, ?_⟩, fun c => ⟨⟨by omega, by omega⟩, ⟨by omega, by omega⟩, ?_⟩⟩
    · rintro m1 rfl
      have ej : j = 1105 := by omega
      have e : X = zIg A i := by
        funext l
        rw [h3 l, ej]
        rfl
      rw [e, Int.toNat_natCast]
      exact h
    · rintro m1 rfl
      rw [zm_urs, zm_urt, Int.toNat_natCast, show (1105 * ((i : Int) + 1) + j).toNat = 1105 * (i + 1) + j by omega]
      refine ih (j + 1) _ (by omega) (by omega) (fun l => ?_)
      show (if l = 1105 * (i + 1) + j then X j else X l) = _
      by_cases c : l = 1105 * (i + 1) + j
      · rw [if_pos c, h3, if_neg (by omega), if_pos (by omega)]
        exact congrArg A (by omega)
      · rw [if_neg c, h3 l]
        by_cases d : 1105 * (i + 1) ≤ l ∧ l < 1105 * (i + 1) + j
        · rw [if_pos d, if_pos (by omega)]
        · rw [if_neg d, if_neg (by omega)]
theorem pX12_image {f : Nat} {Φ : Int → aj_M → Prop} {m : aj_M} {A : Nat → Int} {v : Int} (hf : 1200 ≤ f) (hm : m [1, 1] = A) (hv : rI v) (hbad : ¬ (0 ≤ v ∧ v < 2) → Φ (-2) (rZ m)) (h : ∀ i : Nat, v = i → i < 2 → Φ 0 (aj_u (aj_ur (rZ m) [1, 1] (zIg A i)) [2, 1] i 1)) : wX12_image f Φ [1] v m := by
  rintro m1 rfl
  refine ⟨hv, pW12_within (rL_rI hv) (by decide) (by decide) (fun a b => zc1 ?_) (fun a => zc0 (hbad (by omega)))⟩
  obtain ⟨i, rfl⟩ : ∃ i : Nat, v = i := ⟨v.toNat, by omega⟩
  have e : aj_u m [1] 0 0 [1, 1] = A := by rw [zu_off (by decide), hm]
  have := hX12_img (f := f) (Φ := Φ) (m := aj_u m [1] 0 0) (A := A) (i := i) (by omega) (h i rfl (by omega)) f 0 A (by omega) (by omega) (fun l => by rw [if_neg (by omega)])
  rw [← e, zm_id] at this
  exact this
theorem hX12_res {f : Nat} {Φ : Int → aj_M → Prop} {m : aj_M} {A : Nat → Int} {i : Nat} (hi : i < 2) (h : Φ 0 (aj_ur m [1, 1] (zRs A i))) : ∀ (k j : Nat) (X : Nat → Int), j ≤ 1105 → 1105 - j < k → (∀ l, X l = if l < j then A (1105 * (i + 1) + l) else A l) → hX12_restore_32 f Φ k [1] i (j : Int) (aj_ur m [1, 1] X) := by
  intro k
  induction k with
  | zero => intro j X h1 h2; omega
  | succ k ih =>
    intro j X h1 h2 h3
    refine ⟨⟨by omega, by omega⟩, fun c => ?_, fun c => ⟨⟨by omega, by omega⟩, ⟨by omega, by omega⟩, ?_⟩⟩
    · rintro m1 rfl
      have ej : j = 1105 := by omega
      rw [zm_urt]
      have e : tup X (63 : Int).toNat 0 = zRs A i := by
        funext l
        show (if l = 63 then 0 else X l) = (if l < 1105 then (if l = 63 then 0 else A (1105 * (i + 1) + l)) else A l)
        by_cases c : l = 63
        · rw [if_pos c, if_pos (by omega), if_pos c]
        · rw [if_neg c, if_neg c, h3 l, ej]
      rw [e]
      exact h
    · rintro m1 rfl
      rw [zm_urs, zm_urt, Int.toNat_natCast, show (1105 * ((i : Int) + 1) + j).toNat = 1105 * (i + 1) + j by omega]
      refine ih (j + 1) _ (by omega) (by omega) (fun l => ?_)
      show (if l = j then X (1105 * (i + 1) + j) else X l) = _
      by_cases c : l = j
      · rw [if_pos c, h3, if_neg (by omega), if_pos (by omega), c]
      · rw [if_neg c, h3 l]
        by_cases d : l < j
        · rw [if_pos d, if_pos (by omega)]
        · rw [if_neg d, if_neg (by omega)]
theorem pX12_restore {f : Nat} {Φ : Int → aj_M → Prop} {m : aj_M} {A : Nat → Int} {I : Nat → Bool} {v : Int} (hf : 1200 ≤ f) (hm : m [1, 1] = A) (hI : zIR m I) (hv : rI v) (hbad : ¬ (0 ≤ v ∧ v < 2) → Φ (-2) (rZ m)) (hno : ∀ i : Nat, v = i → i < 2 → I i = false → Φ (-5) (rZ m)) (h : ∀ i : Nat, v = i → i < 2 → I i = true → Φ 0 (aj_ur (rZ m) [1, 1] (zRs A i))) : wX12_restore f Φ [1] v m := by
  rintro m1 rfl
  refine ⟨hv, pW12_within (rL_rI hv) (by decide) (by decide) (fun a b => zc1 ⟨⟨by omega, by omega⟩, ?_⟩) (fun a => zc0 (hbad (by omega)))⟩
  obtain ⟨i, rfl⟩ : ∃ i : Nat, v = i := ⟨v.toNat, by omega⟩
  have hi : i < 2 := by omega
  have e1 : aj_u m [1] 0 0 [1, 1] = A := by rw [zu_off (by decide), hm]
  rw [Int.toNat_natCast, zu_off (by decide), hI i hi]
  cases e : I i with
  | false =>
    rw [if_neg (by decide)]
    exact ⟨by decide, fun c => absurd rfl c, fun _ => hno i rfl hi e⟩
  | true =>
    rw [if_pos rfl]
    refine ⟨by decide, fun _ => ?_, fun c => absurd c (by decide)⟩
    have := hX12_res (f := f) (Φ := Φ) (m := aj_u m [1] 0 0) (A := A) (i := i) hi (h i rfl hi e) f 0 A (by omega) (by omega) (fun l => by rw [if_neg (by omega)])
    rw [← e1, zm_id] at this
    exact this
