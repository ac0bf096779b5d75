/-! TOOLS OF THE PURE PART -/
theorem zp_for {σ : Type} {H : Nat → Int → σ → Prop} {N : Int} (I : Int → σ → Prop) (st : ∀ (k : Nat) (i : Int) (s : σ), i ≤ N → I i s → (i < N → ∀ s', I (i + 1) s' → H k (i + 1) s') → H (k + 1) i s) : ∀ (k : Nat) (i : Int) (s : σ), i ≤ N → N - i < k → I i s → H k i s := by
  intro k
  induction k with
  | zero => intro i s h1 h2 _; omega
  | succ k ih =>
    intro i s h1 h2 h3
    exact st k i s h1 h3 (fun h s' h' => ih (i + 1) s' (by omega) (by omega) h')
theorem zp_wh {σ : Type} {H : Nat → σ → Prop} (I : σ → Prop) (μ : σ → Nat) (st : ∀ (k : Nat) (s : σ), I s → (∀ s', I s' → μ s' < μ s → H k s') → H (k + 1) s) : ∀ (k : Nat) (s : σ), μ s < k → I s → H k s := by
  intro k
  induction k with
  | zero => intro s h _; omega
  | succ k ih =>
    intro s h1 h2
    exact st k s h2 (fun s' h' h3 => ih s' (by omega) h')
/-- a yes or a no that is asked at once -/
theorem zb1 {A B : Prop} (h : B) : rI 1 ∧ ((1 : Int) = 0 → A) ∧ (¬ ((1 : Int) = 0) → B) := ⟨by decide, fun e => absurd e (by decide), fun _ => h⟩
theorem zb0 {A B : Prop} (h : A) : rI 0 ∧ ((0 : Int) = 0 → A) ∧ (¬ ((0 : Int) = 0) → B) := ⟨by decide, fun _ => h, fun e => absurd rfl e⟩
theorem zc1 {A B : Prop} (h : A) : rI 1 ∧ (¬ ((1 : Int) = 0) → A) ∧ ((1 : Int) = 0 → B) := ⟨by decide, fun _ => h, fun e => absurd e (by decide)⟩
theorem zc0 {A B : Prop} (h : B) : rI 0 ∧ (¬ ((0 : Int) = 0) → A) ∧ ((0 : Int) = 0 → B) := ⟨by decide, fun e => absurd rfl e, fun _ => h⟩
/-! memory -/
theorem zm_uu {m : aj_M} {p : List Nat} {j : Nat} {x y : Int} : aj_u (aj_u m p j x) p j y = aj_u m p j y := by
  funext q k
  simp only [aj_u]
  split <;> simp_all
theorem zm_u_ur {m : aj_M} {p : List Nat} {g : Nat → Int} {j : Nat} {x : Int} : aj_u (aj_ur m p g) p j x = aj_ur m p (fun k => if k = j then x else g k) := by
  funext q k
  simp only [aj_u, aj_ur]
  by_cases h : q = p <;> simp [h]
theorem zm_ur_ur {m : aj_M} {p : List Nat} {g g' : Nat → Int} : aj_ur (aj_ur m p g) p g' = aj_ur m p g' := by
  funext q k
  simp only [aj_ur]
  split <;> simp_all
theorem zm_u_as {m : aj_M} {p : List Nat} {j : Nat} {x : Int} : aj_u m p j x = aj_ur m p (fun k => if k = j then x else m p k) := by
  funext q k
  simp only [aj_u, aj_ur]
  by_cases h : q = p <;> simp [h]
theorem zm_ur_self {m : aj_M} {p : List Nat} : aj_ur m p (m p) = m := by
  funext q k
  simp only [aj_ur]
  split <;> simp_all
theorem zm_ur_id {m : aj_M} {p : List Nat} {g : Nat → Int} (h : ∀ k, g k = m p k) : aj_ur m p g = m := by
  rw [show g = m p from funext h, zm_ur_self]
theorem zm_ur_c {m : aj_M} {p : List Nat} {g g' : Nat → Int} (h : ∀ k, g k = g' k) : aj_ur m p g = aj_ur m p g' := by
  rw [show g = g' from funext h]
theorem zm_ur_comm {m : aj_M} {p q : List Nat} {g g' : Nat → Int} (h : p ≠ q) : aj_ur (aj_ur m p g) q g' = aj_ur (aj_ur m q g') p g := by
  funext r k
  simp only [aj_ur]
  by_cases h1 : r = p
  · by_cases h2 : r = q
    · exact absurd (h1.symm.trans h2) h
    · simp [h1, h]
  · simp [h1]
/-- all but these places is as it was -/
def zo (l : List (List Nat)) (m m' : aj_M) : Prop := ∀ p, p ∉ l → m' p = m p
theorem zo_refl {l : List (List Nat)} {m : aj_M} : zo l m m := fun _ _ => rfl
theorem zo_trans {l l' : List (List Nat)} {a b c : aj_M} (h : zo l a b) (h' : zo l' b c) : zo (l ++ l') a c := fun p hp => (h' p (fun e => hp (List.mem_append_right _ e))).trans (h p (fun e => hp (List.mem_append_left _ e)))
theorem zo_tr {l : List (List Nat)} {a b c : aj_M} (h : zo l a b) (h' : zo l b c) : zo l a c := fun p hp => (h' p hp).trans (h p hp)
theorem zo_mono {l l' : List (List Nat)} {a b : aj_M} (h : zo l a b) (hl : ∀ p, p ∈ l → p ∈ l') : zo l' a b := fun p hp => h p (fun e => hp (hl p e))
theorem zo_u {l : List (List Nat)} {m : aj_M} {p : List Nat} {j : Nat} {x : Int} (h : p ∈ l) : zo l m (aj_u m p j x) := fun q hq => aj_u_off (fun e => hq (e ▸ h))
theorem zo_ur {l : List (List Nat)} {m : aj_M} {p : List Nat} {g : Nat → Int} (h : p ∈ l) : zo l m (aj_ur m p g) := fun q hq => aj_ur_off (fun e => hq (e ▸ h))
/-! rows filled -/
theorem pJ7_fill {f : Nat} {Φ : aj_M → Prop} {n : Nat} {p : List Nat} {v : Int} {m : aj_M} (hf : n < f) (hn : n < 2147483648) (h : Φ (aj_ur m p (fun k => if k < n then v else m p k))) : wJ7_fill_53178 f Φ n p v m := by
  unfold wJ7_fill_53178
  refine zp_for (H := fun k i s => hJ7_fill_53178_5 f Φ k n p v i n s) (N := n) (fun i s => 0 ≤ i ∧ s = aj_ur m p (fun k => if (k : Int) < i then v else m p k)) ?_ f 0 m (by omega) (by omega) ⟨by omega, (zm_ur_id (fun k => by rw [if_neg (by omega)])).symm⟩
  intro k i s h1 h2 h3
  obtain ⟨h4, rfl⟩ := h2
  unfold hJ7_fill_53178_5
  refine ⟨⟨by omega, by omega⟩, ⟨by omega, by omega⟩, fun c => ?_, fun c => ⟨⟨by omega, by omega⟩, ?_⟩⟩
  · have : i = n := by omega
    subst this
    simpa using h
  · rintro _ rfl
    refine h3 (by omega) _ ⟨by omega, ?_⟩
    rw [zm_u_ur]
    refine zm_ur_c (fun k => ?_)
    by_cases e : k = i.toNat
    · rw [if_pos e, if_pos (by omega)]
    · rw [if_neg e]
      by_cases e2 : (k : Int) < i
      · rw [if_pos e2, if_pos (by omega)]
      · rw [if_neg e2, if_neg (by omega)]
theorem pJ7_fillL {f : Nat} {Φ : aj_M → Prop} {n : Nat} {p : List Nat} {v : Int} {m : aj_M} (hf : n < f) (hn : n < 2147483648) (h : Φ (aj_ur m p (fun k => if k < n then v else m p k))) : wJ7_fill_d0a16 f Φ n p v m := by
  unfold wJ7_fill_d0a16
  refine zp_for (H := fun k i s => hJ7_fill_d0a16_6 f Φ k n p v i n s) (N := n) (fun i s => 0 ≤ i ∧ s = aj_ur m p (fun k => if (k : Int) < i then v else m p k)) ?_ f 0 m (by omega) (by omega) ⟨by omega, (zm_ur_id (fun k => by rw [if_neg (by omega)])).symm⟩
  intro k i s h1 h2 h3
  obtain ⟨h4, rfl⟩ := h2
  unfold hJ7_fill_d0a16_6
  refine ⟨⟨by omega, by omega⟩, ⟨by omega, by omega⟩, fun c => ?_, fun c => ⟨⟨by omega, by omega⟩, ?_⟩⟩
  · have : i = n := by omega
    subst this
    simpa using h
  · rintro _ rfl
    refine h3 (by omega) _ ⟨by omega, ?_⟩
    rw [zm_u_ur]
    refine zm_ur_c (fun k => ?_)
    by_cases e : k = i.toNat
    · rw [if_pos e, if_pos (by omega)]
    · rw [if_neg e]
      by_cases e2 : (k : Int) < i
      · rw [if_pos e2, if_pos (by omega)]
      · rw [if_neg e2, if_neg (by omega)]
/-! bits -/
theorem zi_of {n : Nat} (h : n < 2 ^ 31) : Int32.ofInt (n : Int) = nI n := Int32.toInt_inj.mp (by rw [aj_ri (by omega), nI_toInt h])
theorem zi_toInt {x : Int32} (h : x.toBitVec.toNat < 2 ^ 31) : x.toInt = (x.toBitVec.toNat : Int) := by
  show x.toBitVec.toInt = _
  rw [BitVec.toInt_eq_toNat_of_lt (by omega)]
theorem zi_and {n k : Nat} (hn : n < 2 ^ 31) (hk : k < 2 ^ 31) : aj_and (n : Int) (k : Int) = ((n &&& k : Nat) : Int) := by
  unfold aj_and
  rw [zi_of hn, zi_of hk]
  have e : (nI n &&& nI k).toBitVec.toNat = n &&& k := by
    rw [Int32.toBitVec_and, BitVec.toNat_and, pk_tn (by omega), pk_tn (by omega)]
  rw [zi_toInt (by rw [e]; exact Nat.lt_of_le_of_lt Nat.and_le_left hn), e]
theorem zi_or {n k : Nat} (hn : n < 2 ^ 31) (hk : k < 2 ^ 31) : aj_or (n : Int) (k : Int) = ((n ||| k : Nat) : Int) := by
  unfold aj_or
  rw [zi_of hn, zi_of hk]
  have e : (nI n ||| nI k).toBitVec.toNat = n ||| k := by
    rw [Int32.toBitVec_or, BitVec.toNat_or, pk_tn (by omega), pk_tn (by omega)]
  rw [zi_toInt (by rw [e]; exact Nat.or_lt_two_pow hn hk), e]
theorem zi_xor {n k : Nat} (hn : n < 2 ^ 31) (hk : k < 2 ^ 31) : aj_xor (n : Int) (k : Int) = ((n ^^^ k : Nat) : Int) := by
  unfold aj_xor
  rw [zi_of hn, zi_of hk]
  have e : (nI n ^^^ nI k).toBitVec.toNat = n ^^^ k := by
    rw [Int32.toBitVec_xor, BitVec.toNat_xor, pk_tn (by omega), pk_tn (by omega)]
  rw [zi_toInt (by rw [e]; exact Nat.xor_lt_two_pow hn hk), e]
theorem zi_sh31 {i : Nat} (h : i < 32) : ((Int32.ofInt (i : Int) &&& 31).toBitVec.smod 32).toNat = i := by
  have := h
  rw [zi_of (by omega)]
  exact co_dec (N := 32) (P := fun i => ((nI i &&& 31).toBitVec.smod 32).toNat = i) (by decide +kernel) h
theorem zi_shr {n i : Nat} (hn : n < 2 ^ 31) (hi : i < 32) : aj_shr (n : Int) (i : Int) = ((n / 2 ^ i : Nat) : Int) := by
  unfold aj_shr
  rw [zi_of hn, pk_shrN hn _ i (zi_sh31 hi), nI_toInt (Nat.lt_of_le_of_lt (Nat.div_le_self _ _) hn)]
theorem zi_shl {i : Nat} (hi : i < 31) : aj_shl 1 (i : Int) = ((2 ^ i : Nat) : Int) := by
  unfold aj_shl
  have h2 : 2 ^ i < 2 ^ 31 := Nat.pow_lt_pow_right (by decide) hi
  have e : Int32.ofInt 1 = nI 1 := by decide
  rw [e, pk_shlN (n := 1) _ i (zi_sh31 (by omega)) (by omega), Nat.one_mul, nI_toInt h2]
theorem zi_bit {n i : Nat} (hn : n < 2 ^ 31) (hi : i < 32) : aj_and (aj_shr (n : Int) (i : Int)) 1 = if n.testBit i then 1 else 0 := by
  rw [zi_shr hn hi, show (1 : Int) = ((1 : Nat) : Int) from rfl, zi_and (Nat.lt_of_le_of_lt (Nat.div_le_self _ _) hn) (by decide), Nat.and_one_is_mod, Nat.testBit_eq_decide_div_mod_eq]
  have : n / 2 ^ i % 2 = 0 ∨ n / 2 ^ i % 2 = 1 := by omega
  rcases this with h | h <;> simp [h]
theorem zl_of {n : Nat} (h : n < 2 ^ 63) : Int64.ofInt (n : Int) = lN n := Int64.toInt_inj.mp (by rw [aj_rl (by omega), pk_lT h])
theorem zl_tn {n : Nat} (h : n < 2 ^ 64) : (lN n).toBitVec.toNat = n := Nat.mod_eq_of_lt h
theorem zl_toInt {x : Int64} (h : x.toBitVec.toNat < 2 ^ 63) : x.toInt = (x.toBitVec.toNat : Int) := by
  show x.toBitVec.toInt = _
  rw [BitVec.toInt_eq_toNat_of_lt (by omega)]
theorem zl_and {n k : Nat} (hn : n < 2 ^ 63) (hk : k < 2 ^ 63) : aj_landL (n : Int) (k : Int) = ((n &&& k : Nat) : Int) := by
  unfold aj_landL
  rw [zl_of hn, zl_of hk]
  have e : (lN n &&& lN k).toBitVec.toNat = n &&& k := by
    rw [Int64.toBitVec_and, BitVec.toNat_and, zl_tn (by omega), zl_tn (by omega)]
  rw [zl_toInt (by rw [e]; exact Nat.lt_of_le_of_lt Nat.and_le_left hn), e]
theorem zl_or {n k : Nat} (hn : n < 2 ^ 63) (hk : k < 2 ^ 63) : aj_lorL (n : Int) (k : Int) = ((n ||| k : Nat) : Int) := by
  unfold aj_lorL
  rw [zl_of hn, zl_of hk]
  have e : (lN n ||| lN k).toBitVec.toNat = n ||| k := by
    rw [Int64.toBitVec_or, BitVec.toNat_or, zl_tn (by omega), zl_tn (by omega)]
  rw [zl_toInt (by rw [e]; exact Nat.or_lt_two_pow hn hk), e]
theorem zl_sh63 {i : Nat} (h : i < 64) : (((Int32.ofInt (i : Int)).toInt64 &&& 63).toBitVec.smod 64).toNat = i := by
  have := h
  rw [zi_of (by omega)]
  exact co_dec (N := 64) (P := fun i => (((nI i).toInt64 &&& 63).toBitVec.smod 64).toNat = i) (by decide +kernel) h
theorem zl_shr {n i : Nat} (hn : n < 2 ^ 63) (hi : i < 64) : aj_lshr (n : Int) (i : Int) = ((n / 2 ^ i : Nat) : Int) := by
  unfold aj_lshr
  show ((Int64.ofInt n).toBitVec.sshiftRight (((Int32.ofInt (i : Int)).toInt64 &&& 63).toBitVec.smod 64).toNat).toInt = _
  rw [zl_sh63 hi, BitVec.toInt_sshiftRight]
  show (Int64.ofInt n).toInt >>> i = _
  rw [aj_rl (by omega), Int.shiftRight_eq_div_pow]
  rfl
theorem zl_shl {i : Nat} (hi : i < 63) : aj_lshl 1 (i : Int) = ((2 ^ i : Nat) : Int) := by
  unfold aj_lshl
  have h2 : 2 ^ i < 2 ^ 63 := Nat.pow_lt_pow_right (by decide) hi
  have e : (Int64.ofInt 1 <<< ((Int32.ofInt (i : Int)).toInt64 &&& 63)).toBitVec.toNat = 2 ^ i := by
    show ((Int64.ofInt 1).toBitVec <<< (((Int32.ofInt (i : Int)).toInt64 &&& 63).toBitVec.smod 64).toNat).toNat = _
    rw [zl_sh63 (by omega), BitVec.toNat_shiftLeft, Nat.shiftLeft_eq, show (Int64.ofInt 1).toBitVec.toNat = 1 by decide, Nat.one_mul, Nat.mod_eq_of_lt (by omega)]
  rw [zl_toInt (by rw [e]; exact h2), e]
theorem zl_bit {n i : Nat} (hn : n < 2 ^ 63) (hi : i < 64) : aj_landL (aj_lshr (n : Int) (i : Int)) 1 = if n.testBit i then 1 else 0 := by
  rw [zl_shr hn hi, show (1 : Int) = ((1 : Nat) : Int) from rfl, zl_and (Nat.lt_of_le_of_lt (Nat.div_le_self _ _) hn) (by decide), Nat.and_one_is_mod, Nat.testBit_eq_decide_div_mod_eq]
  have : n / 2 ^ i % 2 = 0 ∨ n / 2 ^ i % 2 = 1 := by omega
  rcases this with h | h <;> simp [h]
/-- a bit taken away -/
theorem zl_clr {n i : Nat} (hn : n < 2 ^ 63) (hi : i < 63) : ∃ k : Nat, k ≤ n ∧ aj_landL (n : Int) (aj_lxorL (aj_lshl 1 (i : Int)) (-1)) = (k : Int) ∧ ∀ j, k.testBit j = (n.testBit j && decide (j ≠ i)) := by
  have h2 : 2 ^ i < 2 ^ 63 := Nat.pow_lt_pow_right (by decide) hi
  have e0 : (Int64.ofInt (aj_lxorL (aj_lshl 1 (i : Int)) (-1))).toBitVec = ~~~ (BitVec.ofNat 64 (2 ^ i)) := by
    rw [zl_shl hi, aj_lxorL, Int64.ofInt_toInt, zl_of h2, Int64.toBitVec_xor, show (Int64.ofInt (-1)).toBitVec = BitVec.allOnes 64 by decide, BitVec.xor_allOnes]
    rfl
  have e : (Int64.ofInt (n : Int) &&& Int64.ofInt (aj_lxorL (aj_lshl 1 (i : Int)) (-1))).toBitVec.toNat ≤ n := by
    rw [Int64.toBitVec_and, BitVec.toNat_and, zl_of hn, zl_tn (by omega)]
    exact Nat.and_le_left
  refine ⟨_, e, zl_toInt (by omega), fun j => ?_⟩
  rw [Int64.toBitVec_and, e0, ← BitVec.getLsbD, BitVec.getLsbD_and, BitVec.getLsbD_not, zl_of hn]
  rw [show (lN n).toBitVec.getLsbD j = n.testBit j by rw [BitVec.getLsbD, zl_tn (by omega)]]
  by_cases hj : j < 64
  · rw [BitVec.getLsbD_ofNat, Nat.testBit_two_pow]
    by_cases h : i = j <;> simp [h, hj, Ne.symm]
  · have : n.testBit j = false := Nat.testBit_lt_two_pow (Nat.lt_of_lt_of_le hn (Nat.pow_le_pow_right (by decide) (by omega)))
    simp [this]
theorem zt_or {n i j : Nat} : (n ||| 2 ^ i).testBit j = (n.testBit j || decide (i = j)) := by
  rw [Nat.testBit_or, Nat.testBit_two_pow]
theorem zt_xor {n i j : Nat} : (n ^^^ 2 ^ i).testBit j = (n.testBit j != decide (i = j)) := by
  rw [Nat.testBit_xor, Nat.testBit_two_pow]
