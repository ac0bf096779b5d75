/-! THE GROUP: products, orders, inverses as whole numbers -/
def gQ (x y : Int) : Int := (if x % 4 = 0 then y % 4 else if y % 4 = 0 then x % 4 else if x % 4 = y % 4 then 0 else 6 - x % 4 - y % 4) + 4 * ((if 0 < x % 4 ∧ 0 < y % 4 ∧ (y % 4 - x % 4) % 3 ≠ 1 then x / 4 + y / 4 + 1 else x / 4 + y / 4) % 2)
def gT (k a b x y : Int) : Int := if k = 1 then (x + y) % a else if k = 3 then (x / b + y / b) % a * b + (x + y % b) % b else if k = 4 then gQ x y else if x < a then (x + y % a) % a + (if y < a then 0 else a) else (x - a - y % a) % a + (if y < a then a else 0)
def gOK (k a b n : Int) : Prop := (k = 1 ∧ 1 ≤ a ∧ a ≤ 12 ∧ n = a) ∨ (k = 2 ∧ 1 ≤ a ∧ a ≤ 6 ∧ n = 2 * a) ∨ (k = 3 ∧ 1 ≤ a ∧ 1 ≤ b ∧ a * b ≤ 12 ∧ n = a * b) ∨ (k = 4 ∧ n = 8)
/-- the order: how many of it make the first member -/
def gOf (k a b x : Int) : Nat → Int → Int → Option Int
  | 0, _, _ => none
  | f + 1, its, n => if its = 0 then some n else gOf k a b x f (gT k a b its x) (n + 1)
def gO (k a b x : Int) : Int := (gOf k a b x 13 x 1).getD 0
/-- the inverse: the least member that undoes it -/
def gIf (k a b x : Int) : Nat → Int → Option Int
  | 0, _ => none
  | f + 1, y => if gT k a b x y = 0 then some y else gIf k a b x f (y + 1)
def gI (k a b x : Int) : Int := (gIf k a b x 13 0).getD 0
/-- as the class reckons both -/
def gSf (k a b n x : Int) : Nat → Int → Int → Int → Option (Int × Int)
  | 0, _, _, _ => none
  | f + 1, p, l, many => if n ≤ many ∨ p = 0 then some (many, l) else gSf k a b n x f (gT k a b p x) p (many + 1)
def gL : List (Int × Int × Int × Int) := ((List.range 12).map fun (i : Nat) => (1, (i : Int) + 1, 0, (i : Int) + 1)) ++ ((List.range 6).map fun (i : Nat) => (2, (i : Int) + 1, 0, 2 * ((i : Int) + 1))) ++ ((List.range 12).flatMap fun (i : Nat) => (((List.range 12).filter fun (j : Nat) => (i + 1) * (j + 1) ≤ 12).map fun (j : Nat) => (3, (i : Int) + 1, (j : Int) + 1, ((i : Int) + 1) * ((j : Int) + 1)))) ++ [(4, 0, 0, 8)]
theorem gT_b {k a b x y : Int} (h : k ≠ 3) : gT k a b x y = gT k a 0 x y := by
  simp [gT, h]
theorem gT_4 {a b x y : Int} : gT 4 a b x y = gT 4 0 0 x y := by
  simp [gT]
def gN (k a b : Int) : Int × Int := if k = 4 then (0, 0) else if k = 3 then (a, b) else (a, 0)
theorem gT_N {k a b : Int} : gT k a b = gT k (gN k a b).1 (gN k a b).2 := by
  funext x y
  unfold gN
  by_cases h4 : k = 4
  · subst h4; rw [if_pos rfl]; exact gT_4
  · rw [if_neg h4]
    by_cases h3 : k = 3
    · rw [if_pos h3]
    · rw [if_neg h3]; exact gT_b h3
theorem gOf_N {k a b x : Int} : ∀ (f : Nat) (y n : Int), gOf k a b x f y n = gOf k (gN k a b).1 (gN k a b).2 x f y n
  | 0, _, _ => rfl
  | f + 1, y, n => by unfold gOf; rw [← gOf_N f, ← gT_N]
theorem gIf_N {k a b x : Int} : ∀ (f : Nat) (y : Int), gIf k a b x f y = gIf k (gN k a b).1 (gN k a b).2 x f y
  | 0, _ => rfl
  | f + 1, y => by unfold gIf; rw [← gIf_N f, ← gT_N]
theorem gSf_N {k a b n x : Int} : ∀ (f : Nat) (p l q : Int), gSf k a b n x f p l q = gSf k (gN k a b).1 (gN k a b).2 n x f p l q
  | 0, _, _, _ => rfl
  | f + 1, p, l, q => by unfold gSf; rw [← gSf_N f, ← gT_N]
theorem gL_mem {k a b n : Int} (h : gOK k a b n) : (k, (gN k a b).1, (gN k a b).2, n) ∈ gL := by
  unfold gL gN
  rcases h with ⟨rfl, h1, h2, rfl⟩ | ⟨rfl, h1, h2, rfl⟩ | ⟨rfl, h1, h2, h3, rfl⟩ | ⟨rfl, rfl⟩
  · refine List.mem_append_left _ (List.mem_append_left _ (List.mem_append_left _ (List.mem_map.mpr ⟨(n - 1).toNat, List.mem_range.mpr (by omega), ?_⟩)))
    simp; omega
  · refine List.mem_append_left _ (List.mem_append_left _ (List.mem_append_right _ (List.mem_map.mpr ⟨(a - 1).toNat, List.mem_range.mpr (by omega), ?_⟩)))
    simp; omega
  · have ha : a ≤ 12 := by
      have : a * 1 ≤ a * b := Int.mul_le_mul_of_nonneg_left h2 (by omega)
      omega
    have hb : b ≤ 12 := by
      have : 1 * b ≤ a * b := Int.mul_le_mul_of_nonneg_right h1 (by omega)
      omega
    have ea : (((a - 1).toNat : Nat) : Int) + 1 = a := by omega
    have eb : (((b - 1).toNat : Nat) : Int) + 1 = b := by omega
    refine List.mem_append_left _ (List.mem_append_right _ (List.mem_flatMap.mpr ⟨(a - 1).toNat, List.mem_range.mpr (by omega), List.mem_map.mpr ⟨(b - 1).toNat, List.mem_filter.mpr ⟨List.mem_range.mpr (by omega), ?_⟩, ?_⟩⟩))
    · have : (((((a - 1).toNat + 1) * ((b - 1).toNat + 1) : Nat)) : Int) ≤ 12 := by
        rw [Int.natCast_mul, Int.natCast_add, Int.natCast_add]
        show (((a - 1).toNat : Int) + 1) * (((b - 1).toNat : Int) + 1) ≤ 12
        rw [ea, eb]; exact h3
      simp only [decide_eq_true_eq]
      omega
    · rw [ea, eb]; simp
  · exact List.mem_append_right _ (by simp)
def gAll (P : Int → Int → Int → Int → Int → Int → Bool) : Bool := gL.all fun g => (List.range 12).all fun x => (List.range 12).all fun y => if (x : Int) < g.2.2.2 ∧ (y : Int) < g.2.2.2 then P g.1 g.2.1 g.2.2.1 g.2.2.2 x y else true
theorem gAll_of {P : Int → Int → Int → Int → Int → Int → Bool} (h : gAll P = true) {k a b n x y : Int} (hg : (k, a, b, n) ∈ gL) (hn : n ≤ 12) (hx : 0 ≤ x) (hx2 : x < n) (hy : 0 ≤ y) (hy2 : y < n) : P k a b n x y = true := by
  have h1 := List.all_eq_true.mp (List.all_eq_true.mp (List.all_eq_true.mp h _ hg) x.toNat (List.mem_range.mpr (by omega))) y.toNat (List.mem_range.mpr (by omega))
  have ex : ((x.toNat : Nat) : Int) = x := by omega
  have ey : ((y.toNat : Nat) : Int) = y := by omega
  simpa [ex, ey, hx2, hy2] using h1
def gChk (k a b n x y : Int) : Bool := decide (0 ≤ gT k a b x y) && decide (gT k a b x y < n) && decide (gT k a b x y = x → y = 0) && decide (gT k a b 0 y = y) && (gOf k a b x 13 x 1).isSome && decide (1 ≤ gO k a b x) && decide (gO k a b x ≤ 12) && (gIf k a b x 13 0).isSome && decide (0 ≤ gI k a b x) && decide (gI k a b x < n) && decide (gSf k a b n x 13 x 0 1 = some (gO k a b x, gI k a b x))
theorem gChk_all : gAll gChk = true := by decide +kernel
theorem gOK_n {k a b n : Int} (h : gOK k a b n) : 1 ≤ n ∧ n ≤ 12 := by
  rcases h with ⟨_, h1, h2, rfl⟩ | ⟨_, h1, h2, rfl⟩ | ⟨_, h1, h2, h3, rfl⟩ | ⟨_, rfl⟩
  · omega
  · omega
  · have : 1 * 1 ≤ a * b := Int.mul_le_mul h1 h2 (by omega) (by omega)
    omega
  · omega
theorem gO_N {k a b x : Int} : gO k a b x = gO k (gN k a b).1 (gN k a b).2 x := by unfold gO; rw [← gOf_N]
theorem gI_N {k a b x : Int} : gI k a b x = gI k (gN k a b).1 (gN k a b).2 x := by unfold gI; rw [← gIf_N]
theorem g_fact {k a b n x y : Int} (h : gOK k a b n) (hx : 0 ≤ x) (hx2 : x < n) (hy : 0 ≤ y) (hy2 : y < n) : 0 ≤ gT k a b x y ∧ gT k a b x y < n ∧ (gT k a b x y = x → y = 0) ∧ gT k a b 0 y = y ∧ gOf k a b x 13 x 1 = some (gO k a b x) ∧ 1 ≤ gO k a b x ∧ gO k a b x ≤ 12 ∧ gIf k a b x 13 0 = some (gI k a b x) ∧ 0 ≤ gI k a b x ∧ gI k a b x < n ∧ gSf k a b n x 13 x 0 1 = some (gO k a b x, gI k a b x) := by
  have h1 := gAll_of gChk_all (gL_mem h) (gOK_n h).2 hx hx2 hy hy2
  unfold gChk at h1
  rw [← gT_N, ← gO_N, ← gI_N, ← gOf_N, ← gIf_N, ← gSf_N] at h1
  simp only [Bool.and_eq_true, decide_eq_true_eq] at h1
  obtain ⟨⟨⟨⟨⟨⟨⟨⟨⟨⟨a1, a2⟩, a3⟩, a4⟩, a5⟩, a6⟩, a7⟩, a8⟩, a9⟩, a10⟩, a11⟩ := h1
  refine ⟨a1, a2, a3, a4, ?_, a6, a7, ?_, a9, a10, a11⟩
  · unfold gO
    obtain ⟨z, hz⟩ := Option.isSome_iff_exists.mp a5
    rw [hz]; rfl
  · unfold gI
    obtain ⟨z, hz⟩ := Option.isSome_iff_exists.mp a8
    rw [hz]; rfl
