/-! DEEDS: why not, what is done, on the row; reference: stores, notes, is again -/
def zAg (A B : Nat → Int) : Prop := ∀ j, j < 49 ∨ 204 ≤ j → B j = A j
theorem zAg_rfl {A : Nat → Int} : zAg A A := fun _ _ => rfl
theorem zAg_tr {A B C : Nat → Int} (h : zAg A B) (k : zAg B C) : zAg A C := fun j hj => (k j hj).trans (h j hj)
theorem zAg_code {A B : Nat → Int} (h : zAg A B) : (fun i => B (205 + i)) = (fun i => A (205 + i)) := by
  funext i
  exact h _ (Or.inr (by omega))
theorem zAg_W {A B : Nat → Int} (h : zAg A B) {ar : Nat} (har : ar < 12) {x t : Int} : zW B ar x t = zW A ar x t := by
  funext j
  unfold zW
  rw [h (13 + ar) (Or.inl (by omega)), h (25 + ar) (Or.inl (by omega))]
theorem zAg_Law {A B : Nat → Int} (h : zAg A B) {lw ar : Nat} (hl : lw < 2) (har : ar < 12) {x t : Int} : zLaw B lw ar x t = zLaw A lw ar x t := by
  unfold zLaw
  rw [zAg_W h har, zAg_code h, h (9 + lw) (Or.inl (by omega)), h (11 + lw) (Or.inl (by omega))]
theorem zAg_Kept {A B : Nat → Int} (h : zAg A B) {ar : Nat} (har : ar < 12) {x t : Int} : zKept B ar x t ↔ zKept A ar x t := by
  unfold zKept
  rw [h 7 (Or.inl (by decide)), zAg_Law h (by decide) har]
theorem zAg_LawOK {A B : Nat → Int} (h : zAg A B) {lw : Nat} {ty : Bool} (hl : lw < 2) (k : zLawOK A lw ty) : zLawOK B lw ty := by
  unfold zLawOK at k ⊢
  rw [h (7 + lw) (Or.inl (by omega)), h (9 + lw) (Or.inl (by omega)), h (11 + lw) (Or.inl (by omega)), h 204 (Or.inr (by decide)), zAg_code h]
  exact k
theorem zAg_P {A B : Nat → Int} (h : zAg A B) (h6 : A 6 ≤ 12) {m : aj_M} {p : List Nat} (k : wP m p A) : wP m p B := by
  obtain ⟨k1, k2, k3, k4, ⟨H, e1, e2, e3⟩, k6, k7⟩ := k
  unfold wP
  rw [h 0 (Or.inl (by decide)), h 1 (Or.inl (by decide)), h 2 (Or.inl (by decide)), h 3 (Or.inl (by decide)), h 4 (Or.inl (by decide)), h 5 (Or.inl (by decide)), h 6 (Or.inl (by decide))]
  refine ⟨k1, k2, k3, k4, ⟨H, e1, e2, fun j hj => ?_⟩, fun j hj => ?_, ?_⟩
  · rw [h (37 + j) (Or.inl (by omega))]
    exact e3 j hj
  · rw [h (13 + j) (Or.inl (by omega)), h (25 + j) (Or.inl (by omega))]
    exact k6 j hj
  · unfold wPl at k7 ⊢
    rw [h 204 (Or.inr (by decide)), h 7 (Or.inl (by decide)), h 8 (Or.inl (by decide)), h 9 (Or.inl (by decide)), h 10 (Or.inl (by decide)), h 11 (Or.inl (by decide)), h 12 (Or.inl (by decide))]
    refine ⟨k7.1, fun i hi => ?_, k7.2.2⟩
    rw [h (205 + i) (Or.inr (by omega))]
    exact k7.2.1 i hi
theorem zAg_K {A B : Nat → Int} (h : zAg A B) (h6 : A 6 ≤ 12) {m : aj_M} {p : List Nat} (k : wK m p A) : wK m p B := by
  rcases k with k | ⟨k1, k2, k3⟩
  · exact Or.inl k
  · refine Or.inr ⟨k1, k2, fun ar har => ?_⟩
    rw [h 6 (Or.inl (by decide))] at har
    obtain ⟨C, c1, c2, c3⟩ := k3 ar har
    refine ⟨C, c1, c2, fun x hx => ?_⟩
    rw [h 4 (Or.inl (by decide))] at hx
    exact (c3 x hx).trans (zAg_Kept h (by omega)).symm
/-- a row whose setting is another good one -/
theorem zAg_A {A B : Nat → Int} (h : zAg A B) (hA : wA A) (hv : ∀ j : Nat, (j : Int) < A 6 → (0 ≤ B (49 + j) ∧ B (49 + j) < A 4) ∧ (A (37 + j) = 1 → gO (A 1) (A 2) (A 3) (B (49 + j)) = 2)) (hc : ∃ C : Nat, B 61 = C ∧ C < 4096) (ht : 0 ≤ B 62 ∧ B 62 ≤ 9) : wA B := by
  obtain ⟨a1, a2, a3, a4, a5, a6, a7, a8, a9, a10⟩ := hA
  refine ⟨?_, ?_, ?_, ?_, hc, ht, ?_, ?_, zAg_LawOK h (by decide) a9, zAg_LawOK h (by decide) a10⟩
  · rw [h 1 (Or.inl (by decide)), h 2 (Or.inl (by decide)), h 3 (Or.inl (by decide)), h 4 (Or.inl (by decide))]
    exact a1
  · rw [h 5 (Or.inl (by decide))]
    exact a2
  · rw [h 6 (Or.inl (by decide))]
    exact a3
  · intro j hj
    rw [h 6 (Or.inl (by decide))] at hj
    obtain ⟨b1, b2, b3, b4⟩ := a4 j hj
    obtain ⟨v1, v2⟩ := hv j hj
    rw [h 1 (Or.inl (by decide)), h 2 (Or.inl (by decide)), h 3 (Or.inl (by decide)), h 4 (Or.inl (by decide)), h 5 (Or.inl (by decide)), h (13 + j) (Or.inl (by omega)), h (25 + j) (Or.inl (by omega)), h (37 + j) (Or.inl (by omega))]
    refine ⟨b1, b2, ?_, v1⟩
    rcases b3 with c | c
    · exact Or.inl c
    · exact Or.inr ⟨c.1, v2 c.1⟩
  · rw [h 0 (Or.inl (by decide))]
    exact a7
  · rw [h 204 (Or.inr (by decide))]
    exact a8
/-- why an arc can't have a voltage -/
def zWht (A : Nat → Int) (a g : Int) : Int := if (0 ≤ a ∧ a < A 6) ∧ (0 ≤ g ∧ g < A 4) then (if A (37 + a.toNat) = 1 ∧ gO (A 1) (A 2) (A 3) g ≠ 2 then 2 else 0) else 1
def zWhy (A : Nat → Int) (v : Int) : Int := if 10 ≤ v ∧ v ≤ 19 then 0 else if 100 ≤ v ∧ v ≤ 111 then (if v - 100 < A 6 then 0 else 1) else if 1000 ≤ v ∧ v ≤ 2199 then zWht A ((v - 1000) / 100) (v % 100) else 1
def zDid (A : Nat → Int) (v : Int) : Nat → Int := if v < 20 then tup A 62 (v - 10) else if v < 112 then tup A 61 (aj_xor (A 61) (aj_shl 1 (v - 100))) else tup A (49 + ((v - 1000) / 100).toNat) (v % 100)
theorem zWht_0 {A : Nat → Int} {a g : Int} (h : zWht A a g = 0) : (0 ≤ a ∧ a < A 6) ∧ (0 ≤ g ∧ g < A 4) ∧ (A (37 + a.toNat) = 1 → gO (A 1) (A 2) (A 3) g = 2) := by
  unfold zWht at h
  split at h
  case isFalse => exact absurd h (by decide)
  case isTrue c =>
    split at h
    case isTrue => exact absurd h (by decide)
    case isFalse d => exact ⟨c.1, c.2, fun e => Classical.byContradiction fun x => d ⟨e, x⟩⟩
theorem zWht_r {A : Nat → Int} {a g : Int} : rI (zWht A a g) := by
  unfold zWht
  split
  · split <;> decide
  · decide
theorem zWhy_r {A : Nat → Int} {v : Int} : rI (zWhy A v) := by
  unfold zWhy
  split
  · decide
  · split
    · split <;> decide
    · split
      · exact zWht_r
      · decide
theorem zA_turn {A : Nat → Int} (hA : wA A) {a g : Int} (h : zWht A a g = 0) : wA (tup A (49 + a.toNat) g) ∧ zAg A (tup A (49 + a.toNat) g) := by
  obtain ⟨h1, h2, h3⟩ := zWht_0 h
  have h6 := hA.2.2.1
  have ag : zAg A (tup A (49 + a.toNat) g) := fun j hj => tup_o (by omega)
  refine ⟨zAg_A ag hA (fun j hj => ?_) ?_ ?_, ag⟩
  · have b := hA.2.2.2.1 j hj
    by_cases e : j = a.toNat
    · subst e
      rw [tup_s]
      exact ⟨h2, h3⟩
    · rw [tup_o (by omega)]
      refine ⟨b.2.2.2, fun c => ?_⟩
      rcases b.2.2.1 with x | x
      · omega
      · exact x.2
  · rw [tup_o (by omega)]
    exact hA.2.2.2.2.1
  · rw [tup_o (by omega)]
    exact hA.2.2.2.2.2.1
theorem zA_same {A : Nat → Int} (hA : wA A) (j : Nat) (hj : (j : Int) < A 6) : (0 ≤ A (49 + j) ∧ A (49 + j) < A 4) ∧ (A (37 + j) = 1 → gO (A 1) (A 2) (A 3) (A (49 + j)) = 2) := by
  have b := hA.2.2.2.1 j hj
  refine ⟨b.2.2.2, fun c => ?_⟩
  rcases b.2.2.1 with x | x
  · omega
  · exact x.2
theorem zA_twist {A : Nat → Int} (hA : wA A) {t : Int} (h : 0 ≤ t ∧ t ≤ 9) : wA (tup A 62 t) ∧ zAg A (tup A 62 t) := by
  have h6 := hA.2.2.1
  have ag : zAg A (tup A 62 t) := fun j hj => tup_o (by omega)
  refine ⟨zAg_A ag hA (fun j hj => ?_) ?_ ?_, ag⟩
  · rw [tup_o (by omega)]
    exact zA_same hA j hj
  · rw [tup_o (by decide)]
    exact hA.2.2.2.2.1
  · rw [tup_s]
    exact h
theorem zA_cut {A : Nat → Int} (hA : wA A) {a : Int} (h : 0 ≤ a ∧ a < A 6) : wA (tup A 61 (aj_xor (A 61) (aj_shl 1 a))) ∧ zAg A (tup A 61 (aj_xor (A 61) (aj_shl 1 a))) := by
  have h6 := hA.2.2.1
  have ag : zAg A (tup A 61 (aj_xor (A 61) (aj_shl 1 a))) := fun j hj => tup_o (by omega)
  refine ⟨zAg_A ag hA (fun j hj => ?_) ?_ ?_, ag⟩
  · rw [tup_o (by omega)]
    exact zA_same hA j hj
  · rw [tup_s]
    obtain ⟨C, hC, hC2⟩ := hA.2.2.2.2.1
    obtain ⟨n, rfl⟩ : ∃ n : Nat, a = n := ⟨a.toNat, by omega⟩
    have hn : n < 12 := by omega
    have hp : 2 ^ n < 2 ^ 12 := Nat.pow_lt_pow_right (by decide) hn
    rw [hC, zi_shl (by omega), zi_xor (by omega) (by omega)]
    exact ⟨_, rfl, Nat.xor_lt_two_pow (n := 12) hC2 hp⟩
  · rw [tup_o (by decide)]
    exact hA.2.2.2.2.2.1
theorem zA_did {A : Nat → Int} (hA : wA A) {v : Int} (h : zWhy A v = 0) : wA (zDid A v) ∧ zAg A (zDid A v) := by
  unfold zWhy at h
  unfold zDid
  split at h
  case isTrue c =>
    rw [if_pos (by omega)]
    exact zA_twist hA (by omega)
  case isFalse c =>
    split at h
    case isTrue d =>
      rw [if_neg (by omega), if_pos (by omega)]
      split at h
      case isTrue e => exact zA_cut hA (by omega)
      case isFalse => exact absurd h (by decide)
    case isFalse d =>
      split at h
      case isTrue e =>
        rw [if_neg (by omega), if_neg (by omega)]
        exact zA_turn hA h
      case isFalse => exact absurd h (by decide)
/-- the reference -/
theorem pX12_whyTurn {f : Nat} {Φ : Int → aj_M → Prop} {m : aj_M} {A : Nat → Int} {a g : Int} (hf : 50 ≤ f) (hA : wA A) (hm : ∀ j, j < 1105 → m [1, 1] j = A j) (ha : rL a) (hg : rL g) (h : Φ (zWht A a g) m) : wX12_whyTurn f Φ [1] a g m := by
  have h6 := hA.2.2.1
  have h12 := gOK_n hA.1
  refine pX12_isArc ha (hm 6 (by decide)) h6 (fun a1 a2 => zb1 ?_) (fun c => zb0 ?_)
  · refine pX12_isMember hg (hm 4 (by decide)) ⟨by omega, h12.2⟩ (fun b1 b2 => zc1 ⟨⟨by omega, by omega⟩, ?_⟩) (fun c => zc0 ?_)
    · rw [zWht, if_pos ⟨⟨a1, a2⟩, b1, b2⟩] at h
      have hh := (hA.2.2.2.1 a.toNat (by omega)).2.2.1
      rw [show (37 + a).toNat = 37 + a.toNat by omega, hm _ (by omega)]
      refine ⟨?_, fun c => ?_, fun c => ?_⟩
      · rcases hh with e | e
        · rw [e]; decide
        · rw [e.1]; decide
      · rw [if_neg (fun x => c x.1)] at h
        exact h
      · have gb := g_fact hA.1 (y := 0) b1 b2 (by omega) (by omega)
        refine pX12_ordersOf (by omega) (by decide) (hm 1 (by decide)) (hm 2 (by decide)) (hm 3 (by decide)) hA.1 b1 b2 ⟨⟨by omega, by omega⟩, fun d => ?_, fun d => ?_⟩
        · rw [if_neg (fun x => x.2 d)] at h
          exact h
        · rw [if_pos ⟨c, d⟩] at h
          exact h
    · rw [zWht, if_neg (fun x => c x.2)] at h
      exact h
  · rw [zWht, if_neg (fun x => c x.1)] at h
    exact h
theorem pX12_whyNot {f : Nat} {Φ : Int → aj_M → Prop} {m : aj_M} {A : Nat → Int} {v : Int} (hf : 50 ≤ f) (hA : wA A) (hm : ∀ j, j < 1105 → m [1, 1] j = A j) (hv : rL v) (h : Φ (zWhy A v) m) : wX12_whyNot f Φ [1] v m := by
  have h6 := hA.2.2.1
  refine pW12_within hv (by decide) (by decide) (fun a b => zb1 ?_) (fun a => zb0 ?_)
  · rw [zWhy, if_pos ⟨a, b⟩] at h
    exact h
  · rw [zWhy, if_neg a] at h
    refine pW12_within hv (by decide) (by decide) (fun b c => zb1 ?_) (fun b => zb0 ?_)
    · rw [if_pos ⟨b, c⟩] at h
      refine pX12_isArc ⟨by omega, by omega⟩ (hm 6 (by decide)) h6 (fun d e => zb1 ?_) (fun d => zb0 ?_)
      · rw [if_pos e] at h
        exact h
      · rw [if_neg (by omega)] at h
        exact h
    · rw [if_neg b] at h
      refine pW12_within hv (by decide) (by decide) (fun c d => zb1 ⟨⟨by omega, by omega⟩, ⟨by omega, by omega⟩, ?_⟩) (fun c => zb0 ?_)
      · rw [if_pos ⟨c, d⟩] at h
        exact pX12_whyTurn hf hA hm ⟨by omega, by omega⟩ ⟨by omega, by omega⟩ h
      · rw [if_neg c] at h
        exact h
theorem zu_ur1 {m : aj_M} {p : List Nat} {t : Nat} {s : Int} {A : Nat → Int} (h : m p = A) : aj_u m p t s = aj_ur m p (tup A t s) := by
  funext q k
  by_cases hq : q = p
  · subst hq
    rw [zu_tup, h]
    simp [aj_ur]
  · rw [zu_off hq]
    simp [aj_ur, hq]
theorem pX12_does {f : Nat} {Φ : aj_M → Prop} {m : aj_M} {A : Nat → Int} {v : Int} (hA : wA A) (hm : m [1, 1] = A) (hw : zWhy A v = 0) (h : Φ (aj_ur m [1, 1] (zDid A v))) : wX12_does f Φ [1] v m := by
  have h6 := hA.2.2.1
  have hv : 10 ≤ v ∧ v ≤ 2199 ∧ (112 ≤ v → 1000 ≤ v) ∧ (20 ≤ v → 100 ≤ v) := by
    unfold zWhy at hw
    split at hw
    · omega
    · split at hw
      · omega
      · split at hw
        · omega
        · exact absurd hw (by decide)
  refine ⟨⟨by omega, by omega⟩, fun c => ⟨⟨by omega, by omega⟩, fun d => ⟨⟨by omega, by omega⟩, ⟨by omega, by omega⟩, ⟨by omega, by omega⟩, ?_⟩, fun d => ?_⟩, fun c => ?_⟩
  · rintro m1 rfl
    rw [zDid, if_neg (by omega), if_neg (by omega)] at h
    rw [show (49 + (v - 1000) / 100).toNat = 49 + ((v - 1000) / 100).toNat by omega]
    rw [← zu_ur1 hm] at h
    exact h
  · rintro m1 rfl
    rw [zDid, if_neg (by omega), if_pos (by omega), ← zu_ur1 hm] at h
    rw [show (61 : Int).toNat = 61 from rfl, hm]
    exact h
  · rintro m1 rfl
    rw [zDid, if_pos (by omega), ← zu_ur1 hm] at h
    exact h
