/-! DEEDS OF THE CLASS; HISTORY -/
theorem pX6_whyNotBy {f : Nat} {Φ : Int → aj_M → Prop} {m : aj_M} {p : List Nat} {A : Nat → Int} {a g : Int} (hA : wA A) (hP : wP m p A) (ha : rI a) (hg : rI g) (h : Φ (zWht A a g) m) : wX6_whyNotBy f Φ p a g m := by
  have h6 := hA.2.2.1
  have h12 := gOK_n hA.1
  have hn : m (0 :: p) 0 = A 4 := hP.1.1
  refine pX6_hasArc ha hP.2.2.1 h6 (fun a1 a2 => zb1 ?_) (fun c => zb0 ?_)
  · refine pX0_has hg (by rw [hn]; exact rI_gOK hA.1) (fun b1 b2 => zc1 ?_) (fun c => zc0 ?_)
    · rw [hn] at b2
      rw [zWht, if_pos ⟨⟨a1, a2⟩, b1, b2⟩] at h
      refine pX6_isHalf hA hP ha (fun _ _ e => zb1 ⟨⟨b1, by omega⟩, ?_⟩) (fun c => zb0 ?_)
      · have gb := g_fact hA.1 (y := 0) b1 b2 (by omega) (by omega)
        rw [hP.1.2.2.2 g b1 b2]
        refine ⟨⟨by omega, by omega⟩, fun d => ?_, fun d => ?_⟩
        · rw [if_neg (fun x => x.2 d)] at h
          exact h
        · rw [if_pos ⟨e, d⟩] at h
          exact h
      · rw [if_neg (fun x => c ⟨a1, a2, x.1⟩)] at h
        exact h
    · rw [hn] at c
      rw [zWht, if_neg (fun x => c x.2)] at h
      exact h
  · rw [zWht, if_neg (fun x => c x.1)] at h
    exact h
theorem wS_off {m m' : aj_M} {s : List Nat} {A : Nat → Int} (h : wS m s A) (h1 : m' s = m s) (h2 : m' (0 :: s) = m (0 :: s)) : wS m' s A := by
  unfold wS
  rw [h1, h2]
  exact h
theorem pX9_turnTo {f : Nat} {Φ : Int → aj_M → Prop} {m : aj_M} {p s : List Nat} {A : Nat → Int} {a g : Int} (hA : wA A) (hP : wP m p A) (hS : wS m s A) (hne : s ≠ 0 :: s) (ha : rI a) (hg : rI g) (h1 : zWht A a g ≠ 0 → Φ (zWht A a g) m) (h0 : zWht A a g = 0 → ∀ m', zo [s, 0 :: s] m m' → wS m' s (tup A (49 + a.toNat) g) → Φ 0 m') : wX9_turnTo f Φ s p a g m := by
  have h6 := hA.2.2.1
  refine pX6_whyNotBy hA hP ha hg ⟨zWht_r, h1, fun c => ?_⟩
  obtain ⟨c1, -, -⟩ := zWht_0 c
  refine ⟨⟨by omega, by omega⟩, ?_⟩
  rintro m2 rfl
  rw [c]
  refine h0 c _ (fun p hp => ?_) ⟨fun j hj => ?_, ?_, ?_⟩
  · simp only [List.mem_cons, List.not_mem_nil, or_false, not_or] at hp
    exact zu_off hp.2
  · rw [tup_o (by omega)] at hj
    rw [zu_tup]
    by_cases e : j = a.toNat
    · subst e
      rw [tup_s, tup_s]
    · rw [tup_o e, tup_o (by omega)]
      exact hS.1 j hj
  · rw [zu_off hne, tup_o (by omega)]
    exact hS.2.1
  · rw [zu_off hne, tup_o (by omega)]
    exact hS.2.2
theorem pX9_cutOrJoin {f : Nat} {Φ : Int → aj_M → Prop} {m : aj_M} {p s : List Nat} {A : Nat → Int} {a : Int} (hA : wA A) (hP : wP m p A) (hS : wS m s A) (hne : 0 :: s ≠ s) (ha : rI a) (h1 : ¬ (0 ≤ a ∧ a < A 6) → Φ 1 m) (h0 : 0 ≤ a → a < A 6 → ∀ m', zo [s, 0 :: s] m m' → wS m' s (tup A 61 (aj_xor (A 61) (aj_shl 1 a))) → Φ 0 m') : wX9_cutOrJoin f Φ s p a m := by
  have h6 := hA.2.2.1
  refine pX6_hasArc ha hP.2.2.1 h6 (fun a1 a2 => zc1 ?_) (fun c => zc0 (h1 c))
  rintro m2 rfl
  refine h0 a1 a2 _ (fun p hp => ?_) ⟨fun j hj => ?_, ?_, ?_⟩
  · simp only [List.mem_cons, List.not_mem_nil, or_false, not_or] at hp
    exact zu_off hp.1
  · rw [tup_o (by decide)] at hj
    rw [zu_off hne, tup_o (by omega)]
    exact hS.1 j hj
  · rw [zu_tup, tup_s, tup_s, hS.2.1]
  · rw [zu_tup, tup_o (by decide), tup_o (by decide)]
    exact hS.2.2
theorem pX9_twistTo {f : Nat} {Φ : Int → aj_M → Prop} {m : aj_M} {s : List Nat} {A : Nat → Int} {t : Int} (hA : wA A) (hS : wS m s A) (hne : 0 :: s ≠ s) (ht : rI t) (h1 : ¬ (0 ≤ t ∧ t ≤ 9) → Φ 1 m) (h0 : 0 ≤ t ∧ t ≤ 9 → ∀ m', zo [s, 0 :: s] m m' → wS m' s (tup A 62 t) → Φ 0 m') : wX9_twistTo f Φ s t m := by
  have h6 := hA.2.2.1
  refine ⟨ht, fun c => h1 (by omega), fun c => ⟨ht, fun d => ?_, fun d => h1 (by omega)⟩⟩
  rintro m2 rfl
  refine h0 (by omega) _ (fun p hp => ?_) ⟨fun j hj => ?_, ?_, ?_⟩
  · simp only [List.mem_cons, List.not_mem_nil, or_false, not_or] at hp
    exact zu_off hp.1
  · rw [tup_o (by decide)] at hj
    rw [zu_off hne, tup_o (by omega)]
    exact hS.1 j hj
  · rw [zu_tup, tup_o (by decide), tup_o (by decide)]
    exact hS.2.1
  · rw [zu_tup, tup_s, tup_s]
theorem pX9_tryDeed {f : Nat} {Φ : Int → aj_M → Prop} {m : aj_M} {p s : List Nat} {A : Nat → Int} {v : Int} (hA : wA A) (hP : wP m p A) (hS : wS m s A) (hne : 0 :: s ≠ s) (hv : rL v) (h1 : zWhy A v ≠ 0 → Φ (zWhy A v) m) (h0 : zWhy A v = 0 → ∀ m', zo [s, 0 :: s] m m' → wS m' s (zDid A v) → Φ 0 m') : wX9_tryDeed f Φ s p v m := by
  have h53 : ¬ (10 ≤ v ∧ v ≤ 19) → ¬ (100 ≤ v ∧ v ≤ 111) → hX9_tryDeed_53 f Φ s p v m := by
    intro a b
    rw [zWhy, if_neg a, if_neg b] at h1 h0
    refine ⟨hv, fun c => ?_, fun c => ⟨hv, fun d => ?_, fun d => ⟨⟨by omega, by omega⟩, ⟨by omega, by omega⟩, ?_⟩⟩⟩
    · rw [if_neg (by omega)] at h1
      exact h1 (by decide)
    · rw [if_neg (by omega)] at h1
      exact h1 (by decide)
    · rw [if_pos (by omega)] at h1 h0
      refine pX9_turnTo hA hP hS (fun e => hne e.symm) ⟨by omega, by omega⟩ ⟨by omega, by omega⟩ h1 (fun e m' z w => h0 e m' z ?_)
      rw [zDid, if_neg (by omega), if_neg (by omega)]
      exact w
  have h26 : ¬ (10 ≤ v ∧ v ≤ 19) → hX9_tryDeed_26 f Φ s p v m := by
    intro a
    refine ⟨hv, fun c => h53 a (by omega), fun c => ⟨hv, fun d => h53 a (by omega), fun d => ?_⟩⟩
    rw [zWhy, if_neg a, if_pos (by omega)] at h1 h0
    refine pX9_cutOrJoin hA hP hS hne ⟨by omega, by omega⟩ (fun c => ?_) (fun c1 c2 m' z w => ?_)
    · rw [if_neg (by omega)] at h1
      exact h1 (by decide)
    · rw [if_pos c2] at h0
      refine h0 rfl m' z ?_
      rw [zDid, if_neg (by omega), if_pos (by omega)]
      exact w
  refine ⟨hv, fun c => h26 (by omega), fun c => ⟨hv, fun d => h26 (by omega), fun d => ?_⟩⟩
  rw [zWhy, if_pos (by omega)] at h1 h0
  refine pX9_twistTo hA hS hne ⟨by omega, by omega⟩ (fun c => by omega) (fun c m' z w => h0 rfl m' z ?_)
  rw [zDid, if_pos (by omega)]
  exact w
/-- a setting copied -/
theorem pX9_copyFrom {f : Nat} {Φ : aj_M → Prop} {m : aj_M} {s d : List Nat} (h1 : s ≠ d) (h2 : s ≠ 0 :: d) (h3 : 0 :: d ≠ d) (h : ∀ m', zo [d, 0 :: d] m m' → (∀ A : Nat → Int, A 6 ≤ 12 → wS m s A → wS m' d A) → Φ m') : wX9_copyFrom f Φ d s m := by
  rintro m1 rfl m2 rfl m3 rfl
  have e1 : ∀ q, q ≠ 0 :: d → aj_cp m (0 :: s) (0 : Int).toNat (0 :: d) (0 : Int).toNat (12 : Int).toNat q = m q := by
    intro q hq
    funext k
    simp [aj_cp, aj_ur, hq]
  have h3' : d ≠ 0 :: d := fun e => h3 e.symm
  refine h _ (fun q hq => ?_) (fun A h6 hS => ⟨fun j hj => ?_, ?_, ?_⟩)
  · simp only [List.mem_cons, List.not_mem_nil, or_false, not_or] at hq
    rw [zu_off hq.1, zu_off hq.1, e1 q hq.2]
  · rw [zu_off h3, zu_off h3]
    have hj2 : j < 12 := by omega
    rw [← hS.1 j hj]
    simp [aj_cp, aj_ur, hj2]
  · rw [zu_tup, tup_o (by decide), zu_tup, tup_s, e1 s h2]
    exact hS.2.1
  · rw [zu_tup, tup_s, zu_off h1, e1 s h2]
    exact hS.2.2
/-- what is kept of earlier settings -/
def zRow (A : Nat → Int) (i : Nat) : Nat → Int := fun j => if 49 ≤ j ∧ j < 63 then A (64 + 14 * i + (j - 49)) else A j
def zHA (A : Nat → Int) : Prop := (0 ≤ A 63 ∧ A 63 ≤ 10) ∧ ∀ i : Nat, (i : Int) < A 63 → wA (zRow A i)
def zHC (m : aj_M) (A : Nat → Int) : Prop := ∃ nx : Nat, nx < 10 ∧ m [5, 0] 1 = nx ∧ m [5, 0] 2 = A 63 ∧ ∀ i : Nat, (i : Int) < A 63 → wS m [(nx + 10 - (A 63).toNat + i) % 10, 0, 5, 0] (zRow A i)
def zNt (W A : Nat → Int) : Nat → Int := if A 63 = 10 then (fun j => if 64 ≤ j ∧ j < 190 then A (j + 14) else if 190 ≤ j ∧ j < 204 then W (j - 190) else A j) else (fun j => if 64 + 14 * (A 63).toNat ≤ j ∧ j < 64 + 14 * (A 63).toNat + 14 then W (j - (64 + 14 * (A 63).toNat)) else if j = 63 then A 63 + 1 else A j)
theorem zNt_off {W A : Nat → Int} (h : 0 ≤ A 63 ∧ A 63 ≤ 10) {j : Nat} (hj : j < 63 ∨ 204 ≤ j) : zNt W A j = A j := by
  unfold zNt
  split
  · show (if 64 ≤ j ∧ j < 190 then A (j + 14) else if 190 ≤ j ∧ j < 204 then W (j - 190) else A j) = A j
    rw [if_neg (by omega), if_neg (by omega)]
  · show (if 64 + 14 * (A 63).toNat ≤ j ∧ j < 64 + 14 * (A 63).toNat + 14 then W (j - (64 + 14 * (A 63).toNat)) else if j = 63 then A 63 + 1 else A j) = A j
    rw [if_neg (by omega), if_neg (by omega)]
theorem zNt_63 {W A : Nat → Int} (h : 0 ≤ A 63 ∧ A 63 ≤ 10) : zNt W A 63 = min (A 63 + 1) 10 := by
  unfold zNt
  split
  · show A 63 = _
    omega
  · show (if 64 + 14 * (A 63).toNat ≤ 63 ∧ 63 < 64 + 14 * (A 63).toNat + 14 then W (63 - (64 + 14 * (A 63).toNat)) else if 63 = 63 then A 63 + 1 else A 63) = _
    rw [if_neg (by omega), if_pos rfl]
    omega
/-- row i behind a note: the last is W, the others are the old ones -/
theorem zNt_row {W A : Nat → Int} (h : 0 ≤ A 63 ∧ A 63 ≤ 10) {i : Nat} (hi : (i : Int) < zNt W A 63) {j : Nat} (hj : j < 14) : zNt W A (64 + 14 * i + j) = if (i : Int) + 1 = zNt W A 63 then W j else A (64 + 14 * (if A 63 = 10 then i + 1 else i) + j) := by
  rw [zNt_63 h] at hi ⊢
  unfold zNt
  by_cases c : A 63 = 10
  · rw [if_pos c, if_pos c]
    show (if 64 ≤ 64 + 14 * i + j ∧ 64 + 14 * i + j < 190 then A (64 + 14 * i + j + 14) else if 190 ≤ 64 + 14 * i + j ∧ 64 + 14 * i + j < 204 then W (64 + 14 * i + j - 190) else A (64 + 14 * i + j)) = _
    by_cases d : i = 9
    · rw [if_neg (by omega), if_pos (by omega), if_pos (by omega)]
      exact congrArg W (by omega)
    · rw [if_pos (by omega), if_neg (by omega)]
      exact congrArg A (by omega)
  · rw [if_neg c, if_neg c]
    show (if 64 + 14 * (A 63).toNat ≤ 64 + 14 * i + j ∧ 64 + 14 * i + j < 64 + 14 * (A 63).toNat + 14 then W (64 + 14 * i + j - (64 + 14 * (A 63).toNat)) else if 64 + 14 * i + j = 63 then A 63 + 1 else A (64 + 14 * i + j)) = _
    by_cases d : (i : Int) = A 63
    · rw [if_pos (by omega), if_pos (by omega)]
      exact congrArg W (by omega)
    · rw [if_neg (by omega), if_neg (by omega), if_neg (by omega)]
