/-! TURN, CUT, TWIST, UNDO: the class -/
def zSg (A B : Nat → Int) : Prop := ∀ j, ¬ (49 ≤ j ∧ j < 63) → B j = A j
theorem zSg_rfl {A : Nat → Int} : zSg A A := fun _ _ => rfl
theorem zSg_tr {A B C : Nat → Int} (h : zSg A B) (k : zSg B C) : zSg A C := fun j hj => (k j hj).trans (h j hj)
theorem zSg_Ag {A B : Nat → Int} (h : zSg A B) : zAg A B := fun j hj => h j (by omega)
theorem zSg_row {A B : Nat → Int} (h : zSg A B) {i : Nat} : zRow B i = zRow A i := by
  funext j
  by_cases c : 49 ≤ j ∧ j < 63
  · rw [zRow_in c, zRow_in c, h _ (by omega)]
  · rw [zRow_out c, zRow_out c, h j c]
theorem zSg_HA {A B : Nat → Int} (h : zSg A B) (k : zHA A) : zHA B := by
  unfold zHA
  rw [h 63 (by decide)]
  exact ⟨k.1, fun i hi => by rw [zSg_row h]; exact k.2 i hi⟩
theorem zSg_HC {A B : Nat → Int} {m : aj_M} (h : zSg A B) (k : zHC m A) : zHC m B := by
  obtain ⟨nx, n1, n2, n3, n4⟩ := k
  unfold zHC
  rw [h 63 (by decide)]
  exact ⟨nx, n1, n2, n3, fun i hi => by rw [zSg_row h]; exact n4 i hi⟩
theorem zSg_tup {A : Nat → Int} {j : Nat} {v : Int} (h : 49 ≤ j ∧ j < 63) : zSg A (tup A j v) := fun k hk => tup_o (fun e => hk (e ▸ h))
theorem zSg_did {A : Nat → Int} (hA : wA A) {v : Int} (h : zWhy A v = 0) : zSg A (zDid A v) := by
  have h6 := hA.2.2.1
  unfold zWhy at h
  unfold zDid
  split at h
  case isTrue c =>
    rw [if_pos (by omega)]
    exact zSg_tup (by omega)
  case isFalse c =>
    split at h
    case isTrue d =>
      rw [if_neg (by omega), if_pos (by omega)]
      exact zSg_tup (by omega)
    case isFalse d =>
      split at h
      case isTrue e =>
        rw [if_neg (by omega), if_neg (by omega)]
        exact zSg_tup (by omega)
      case isFalse => exact absurd h (by decide)
theorem zHC_off {A : Nat → Int} {m m' : aj_M} (k : zHC m A) (h : ∀ p, p ∈ zHl → m' p = m p) : zHC m' A := by
  obtain ⟨nx, n1, n2, n3, n4⟩ := k
  have e := h [5, 0] (by decide)
  refine ⟨nx, n1, by rw [e]; exact n2, by rw [e]; exact n3, fun i hi => ?_⟩
  have hk : (nx + 10 - (A 63).toNat + i) % 10 < 10 := Nat.mod_lt _ (by decide)
  exact wS_off (n4 i hi) (h _ (zHl_a hk).1) (h _ (zHl_a hk).2)
theorem zHl_no {p : List Nat} (h : p ∈ zHl) : p ≠ [2, 0] ∧ p ≠ [0, 2, 0] ∧ p ≠ [3, 0] ∧ p ≠ [0, 3, 0] ∧ p ≠ [0] ∧ p ≠ [4, 0] ∧ p ≠ [0, 4, 0] := by
  refine ⟨?_, ?_, ?_, ?_, ?_, ?_, ?_⟩ <;> (rintro rfl; exact absurd h (by decide))
def zNoA (A0 A : Nat → Int) : Nat → Int := zNt (fun k => A0 (49 + k)) A
theorem zNt_W {W A0 A : Nat → Int} (h : 0 ≤ A 63 ∧ A 63 ≤ 10) (hW : ∀ k, k < 14 → W k = A0 (49 + k)) : zNt W A = zNoA A0 A := by
  unfold zNoA zNt
  by_cases c : A 63 = 10
  · rw [if_pos c, if_pos c]
    funext j
    show (if 64 ≤ j ∧ j < 190 then A (j + 14) else if 190 ≤ j ∧ j < 204 then W (j - 190) else A j) = (if 64 ≤ j ∧ j < 190 then A (j + 14) else if 190 ≤ j ∧ j < 204 then A0 (49 + (j - 190)) else A j)
    by_cases d : 190 ≤ j ∧ j < 204
    · rw [hW _ (by omega)]
    · rw [if_neg d, if_neg d]
  · rw [if_neg c, if_neg c]
    funext j
    show (if 64 + 14 * (A 63).toNat ≤ j ∧ j < 64 + 14 * (A 63).toNat + 14 then W (j - (64 + 14 * (A 63).toNat)) else if j = 63 then A 63 + 1 else A j) = (if 64 + 14 * (A 63).toNat ≤ j ∧ j < 64 + 14 * (A 63).toNat + 14 then A0 (49 + (j - (64 + 14 * (A 63).toNat))) else if j = 63 then A 63 + 1 else A j)
    by_cases d : 64 + 14 * (A 63).toNat ≤ j ∧ j < 64 + 14 * (A 63).toNat + 14
    · rw [hW _ (by omega)]
    · rw [if_neg d, if_neg d]
/-- what a deed leaves of the class's memory -/
def zDlp : List (List Nat) := [0] :: [2, 0] :: [0, 2, 0] :: [3, 0] :: [0, 3, 0] :: zHl
def zCd (m m' : aj_M) (A' : Nat → Int) : Prop := zo zDlp m m' ∧ (∀ k, k ≠ 12 → m' [0] k = m [0] k) ∧ m' [0] 12 = 1 ∧ wS m' [2, 0] A' ∧ zHC m' A'
theorem zo_m {l l' : List (List Nat)} {m m' : aj_M} (h : zo l m m') (hl : ∀ p, p ∈ l → p ∈ l') : zo l' m m' := fun p hp => h p (fun x => hp (hl p x))
theorem zo_t {l : List (List Nat)} {m m' m'' : aj_M} (h : zo l m m') (k : zo l m' m'') : zo l m m'' := fun p hp => (k p hp).trans (h p hp)
/-- behind the deeds: the setting at [2,0] is B's, the one before at [3,0] A's -/
def zDd (m m' : aj_M) (A B : Nat → Int) : Prop := zo [[2, 0], [0, 2, 0], [3, 0], [0, 3, 0]] m m' ∧ wS m' [2, 0] B ∧ wS m' [3, 0] A
theorem zDd_P {m m' : aj_M} {A B X : Nat → Int} (h : zDd m m' A B) (hP : wP m [1, 0] X) : wP m' [1, 0] X :=
  wP_of hP (fun j _ => by rw [h.1 [1, 0] (by decide)]) (h.1 _ (by decide)) (h.1 _ (by decide)) (h.1 _ (by decide)) (h.1 _ (by decide)) (h.1 _ (by decide)) (h.1 _ (by decide)) (h.1 _ (by decide)) (h.1 _ (by decide))
theorem pDone {f : Nat} {Φ : aj_M → Prop} {m m' : aj_M} {A B : Nat → Int} (hA : wA A) (hH : zHA A) (hC : zHC m A) (sg : zSg A B) (hd : zDd m m' A B) (h : ∀ m'', zCd m m'' (zNoA A B) → m'' [3, 0] = m' [3, 0] → m'' [0, 3, 0] = m' [0, 3, 0] → Φ m'') : wX11_wasDone f Φ [0] m' := by
  have h6 := hA.2.2.1
  obtain ⟨z, s2, s3⟩ := hd
  have hC' : zHC m' B := zSg_HC sg (zHC_off hC (fun p hp => z p (by
    have := zHl_no hp
    simp [this])))
  refine pX11_wasDone (W := fun k => A (49 + k)) (zSg_HA sg hH) h6.2 hC' (zSg_Ag sg) (fun _ _ => rfl) s3 ?_
  intro m'' z2 k1 k2 k3
  have hb := (zSg_HA sg hH).1
  refine h m'' ⟨?_, fun k hk => ?_, k2, ?_, k3⟩ (z2 _ (by decide)) (z2 _ (by decide))
  · refine zo_t (zo_m z ?_) (zo_m z2 ?_)
    · intro p hp
      simp only [List.mem_cons, List.not_mem_nil, or_false] at hp
      rcases hp with e | e | e | e <;> (rw [e]; decide)
    · intro p hp
      rcases List.mem_cons.mp hp with e | e
      · rw [e]; decide
      · exact List.mem_cons_of_mem _ (List.mem_cons_of_mem _ (List.mem_cons_of_mem _ (List.mem_cons_of_mem _ (List.mem_cons_of_mem _ e))))
  · rw [k1 k hk, z [0] (by decide)]
  · refine wS_ext (A := B) (fun j hj => zNt_off hb (Or.inl hj)) (by rw [zSg_Ag sg 6 (Or.inl (by decide))]; exact h6.2) (wS_off s2 (z2 _ (by decide)) (z2 _ (by decide)))
theorem pBegin {f : Nat} {Φ : aj_M → Prop} {m : aj_M} {A : Nat → Int} (hA : wA A) (hS : wS m [2, 0] A) (h : ∀ m', zo [[3, 0], [0, 3, 0]] m m' → zDd m m' A A → Φ m') : wX9_copyFrom f Φ [3, 0] [2, 0] m := by
  refine pX9_copyFrom (by decide) (by decide) (by decide) ?_
  intro m' z w
  refine h m' z ⟨zo_m z (fun p hp => ?_), wS_off hS (z _ (by decide)) (z _ (by decide)), w A hA.2.2.1.2 hS⟩
  simp only [List.mem_cons, List.not_mem_nil, or_false] at hp ⊢
  rcases hp with e | e <;> simp [e]
theorem zDd_step {m m1 m2 : aj_M} {A B C : Nat → Int} (h : zDd m m1 A B) (z : zo [[2, 0], [0, 2, 0]] m1 m2) (s : wS m2 [2, 0] C) : zDd m m2 A C := by
  refine ⟨zo_t h.1 (zo_m z (fun p hp => ?_)), s, wS_off h.2.2 (z _ (by decide)) (z _ (by decide))⟩
  simp only [List.mem_cons, List.not_mem_nil, or_false] at hp ⊢
  rcases hp with e | e <;> simp [e]
theorem pX11_turn {f : Nat} {Φ : Int → aj_M → Prop} {m : aj_M} {A : Nat → Int} {a g : Int} (hA : wA A) (hH : zHA A) (hP : wP m [1, 0] A) (hS : wS m [2, 0] A) (hC : zHC m A) (ha : rI a) (hg : rI g) (h1 : zWht A a g ≠ 0 → ∀ m', zo [[3, 0], [0, 3, 0]] m m' → Φ (-10 - zWht A a g) m') (h0 : zWht A a g = 0 → ∀ m', zCd m m' (zNoA A (tup A (49 + a.toNat) g)) → Φ (A (49 + a.toNat)) m') : wX11_turn f Φ [0] a g m := by
  have h6 := hA.2.2.1
  refine pBegin hA hS ?_
  intro m1 z1 d1
  refine pX9_turnTo hA (zDd_P d1 hP) d1.2.1 (by decide) ha hg (fun c => ⟨zWht_r, fun e => absurd e c, fun _ => h1 c m1 z1⟩) (fun c m2 z2 s2 => zb0 ?_)
  obtain ⟨c1, -, -⟩ := zWht_0 c
  have d2 := zDd_step d1 z2 s2
  refine pDone hA hH hC (zSg_tup (by omega)) d2 ?_
  intro m3 k e3 e4
  refine ⟨⟨by omega, by omega⟩, ?_⟩
  have : m3 [0, 3, 0] a.toNat = A (49 + a.toNat) := by
    rw [e4]
    exact d2.2.2.1 a.toNat (by omega)
  rw [this]
  exact h0 c m3 k
theorem pX11_cut {f : Nat} {Φ : Int → aj_M → Prop} {m : aj_M} {A : Nat → Int} {a : Int} (hA : wA A) (hH : zHA A) (hP : wP m [1, 0] A) (hS : wS m [2, 0] A) (hC : zHC m A) (ha : rI a) (h1 : ¬ (0 ≤ a ∧ a < A 6) → ∀ m', zo [[3, 0], [0, 3, 0]] m m' → Φ (-11) m') (h0 : 0 ≤ a → a < A 6 → ∀ m', zCd m m' (zNoA A (tup A 61 (aj_xor (A 61) (aj_shl 1 a)))) → Φ (if (aj_xor (A 61) (aj_shl 1 a)).toNat.testBit a.toNat then 1 else 0) m') : wX11_cut f Φ [0] a m := by
  have h6 := hA.2.2.1
  refine pBegin hA hS ?_
  intro m1 z1 d1
  refine pX9_cutOrJoin hA (zDd_P d1 hP) d1.2.1 (by decide) ha (fun c => ⟨by decide, fun e => absurd e (by decide), fun _ => h1 c m1 z1⟩) (fun c1 c2 m2 z2 s2 => zb0 ?_)
  have d2 := zDd_step d1 z2 s2
  refine pDone hA hH hC (zSg_tup (by decide)) d2 ?_
  intro m3 k e3 e4
  have h0 := h0 c1 c2 m3 k
  obtain ⟨C, hC1, hC2⟩ := (zA_cut hA ⟨c1, c2⟩).1.2.2.2.2.1
  rw [tup_s] at hC1
  obtain ⟨n, rfl⟩ : ∃ n : Nat, a = n := ⟨a.toNat, by omega⟩
  have hb := (zSg_HA (zSg_tup (A := A) (j := 61) (v := aj_xor (A 61) (aj_shl 1 n)) (by decide)) hH).1
  have e61 : m3 [2, 0] 1 = C := by
    rw [k.2.2.2.1.2.1, zNoA, zNt_off hb (Or.inl (by decide)), tup_s, hC1]
  rw [hC1, Int.toNat_natCast, Int.toNat_natCast] at h0
  refine pX9_isOut e61 hC2 (by omega) (fun e => zb1 ?_) (fun e => zb0 ?_)
  · rw [e] at h0
    exact h0
  · rw [e] at h0
    exact h0
theorem pX11_twist {f : Nat} {Φ : Int → aj_M → Prop} {m : aj_M} {A : Nat → Int} {t : Int} (hA : wA A) (hH : zHA A) (hS : wS m [2, 0] A) (hC : zHC m A) (ht : rI t) (h1 : ¬ (0 ≤ t ∧ t ≤ 9) → ∀ m', zo [[3, 0], [0, 3, 0]] m m' → Φ (-11) m') (h0 : 0 ≤ t ∧ t ≤ 9 → ∀ m', zCd m m' (zNoA A (tup A 62 t)) → Φ (A 62) m') : wX11_twist f Φ [0] t m := by
  refine pBegin hA hS ?_
  intro m1 z1 d1
  refine pX9_twistTo hA d1.2.1 (by decide) ht (fun c => ⟨by decide, fun e => absurd e (by decide), fun _ => h1 c m1 z1⟩) (fun c m2 z2 s2 => zb0 ?_)
  have d2 := zDd_step d1 z2 s2
  refine pDone hA hH hC (zSg_tup (by decide)) d2 ?_
  intro m3 k e3 e4
  have : m3 [3, 0] 2 = A 62 := by
    rw [e3]
    exact d2.2.2.2.2
  rw [this]
  exact h0 c m3 k
