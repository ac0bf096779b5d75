/-! SUMS, AND RINGS COUNTED BY THEM -/
def zs : Nat → (Nat → Int) → Int
  | 0, _ => 0
  | n + 1, F => zs n F + F n
theorem zs_ext : ∀ {n : Nat} {F G : Nat → Int}, (∀ v, v < n → F v = G v) → zs n F = zs n G
  | 0, _, _, _ => rfl
  | n + 1, F, G, h => by unfold zs; rw [zs_ext (fun v hv => h v (by omega)), h n (by omega)]
theorem zs_0 : ∀ {n : Nat}, zs n (fun _ => 0) = 0
  | 0 => rfl
  | n + 1 => by unfold zs; rw [zs_0]; rfl
theorem zs_add : ∀ {n : Nat} {F G : Nat → Int}, zs n (fun v => F v + G v) = zs n F + zs n G
  | 0, _, _ => rfl
  | n + 1, F, G => by
    show zs n (fun v => F v + G v) + (F n + G n) = zs n F + F n + (zs n G + G n)
    rw [zs_add]; omega
theorem zs_mul : ∀ {n : Nat} {c : Int} {F : Nat → Int}, zs n (fun v => c * F v) = c * zs n F
  | 0, c, _ => by unfold zs; rw [Int.mul_zero]
  | n + 1, c, F => by unfold zs; rw [zs_mul, Int.mul_add]
theorem zs_swap : ∀ {n m : Nat} {F : Nat → Nat → Int}, zs n (fun u => zs m (fun v => F u v)) = zs m (fun v => zs n (fun u => F u v))
  | 0, m, F => by
    show 0 = zs m (fun _ => 0)
    rw [zs_0]
  | n + 1, m, F => by
    show zs n (fun u => zs m (fun v => F u v)) + zs m (fun v => F n v) = zs m (fun v => zs n (fun u => F u v) + F n v)
    rw [zs_swap, zs_add]
theorem zs_le : ∀ {n : Nat} {F G : Nat → Int}, (∀ v, v < n → F v ≤ G v) → zs n F ≤ zs n G
  | 0, _, _, _ => Int.le_refl _
  | n + 1, F, G, h => by
    unfold zs
    have h1 := zs_le (n := n) (F := F) (G := G) (fun v hv => h v (by omega))
    have h2 := h n (by omega)
    omega
theorem zs_nn {n : Nat} {F : Nat → Int} (h : ∀ v, v < n → 0 ≤ F v) : 0 ≤ zs n F := by
  have := zs_le (n := n) (F := fun _ => 0) (G := F) h
  rwa [zs_0] at this
/-- sums over lists of k nodes -/
def zms (N : Nat) : Nat → (List Nat → Int) → Int
  | 0, F => F []
  | k + 1, F => zs N (fun v => zms N k (fun l => F (v :: l)))
theorem zms_ext {N : Nat} : ∀ {k : Nat} {F G : List Nat → Int}, (∀ l, l.length = k → F l = G l) → zms N k F = zms N k G
  | 0, F, G, h => h [] rfl
  | k + 1, F, G, h => zs_ext (fun v _ => zms_ext (fun l hl => h (v :: l) (by simp [hl])))
theorem zms_0 {N : Nat} : ∀ {k : Nat}, zms N k (fun _ => 0) = 0
  | 0 => rfl
  | k + 1 => by
    show zs N (fun v => zms N k (fun _ => 0)) = 0
    rw [zs_ext (G := fun _ => 0) (fun v _ => zms_0), zs_0]
theorem zms_add {N : Nat} : ∀ {k : Nat} {F G : List Nat → Int}, zms N k (fun l => F l + G l) = zms N k F + zms N k G
  | 0, _, _ => rfl
  | k + 1, F, G => by
    show zs N (fun v => zms N k (fun l => F (v :: l) + G (v :: l))) = _
    rw [zs_ext (fun v _ => zms_add), zs_add]; rfl
theorem zms_mul {N : Nat} : ∀ {k : Nat} {c : Int} {F : List Nat → Int}, zms N k (fun l => c * F l) = c * zms N k F
  | 0, _, _ => rfl
  | k + 1, c, F => by
    show zs N (fun v => zms N k (fun l => c * F (v :: l))) = _
    rw [zs_ext (fun v _ => zms_mul), zs_mul]; rfl
theorem zms_sum {N n : Nat} : ∀ {k : Nat} {F : Nat → List Nat → Int}, zs n (fun v => zms N k (F v)) = zms N k (fun l => zs n (fun v => F v l))
  | 0, _ => rfl
  | k + 1, F => by
    show zs n (fun v => zs N (fun w => zms N k (fun l => F v (w :: l)))) = zs N (fun w => zms N k (fun l => zs n (fun v => F v (w :: l))))
    rw [zs_swap]
    exact zs_ext (fun w _ => zms_sum)
theorem zms_snoc {N : Nat} : ∀ {k : Nat} {F : List Nat → Int}, zms N (k + 1) F = zms N k (fun l => zs N (fun v => F (l ++ [v])))
  | 0, F => rfl
  | k + 1, F => by
    show zs N (fun v => zms N (k + 1) (fun l => F (v :: l))) = zs N (fun v => zms N k (fun l => zs N (fun w => F (v :: l ++ [w]))))
    exact zs_ext (fun v _ => zms_snoc (F := fun l => F (v :: l)))
theorem zms_rev {N : Nat} : ∀ {k : Nat} {F : List Nat → Int}, zms N k (fun l => F l.reverse) = zms N k F
  | 0, F => rfl
  | k + 1, F => by
    show zs N (fun v => zms N k (fun l => F (v :: l).reverse)) = _
    have e1 : ∀ v, zms N k (fun l => F (v :: l).reverse) = zms N k (fun l => F (l ++ [v])) := by
      intro v
      rw [← zms_rev (F := fun l => F (l ++ [v]))]
      exact zms_ext (fun l _ => by rw [List.reverse_cons])
    rw [zs_ext (fun v _ => e1 v), zms_sum, zms_snoc]
/-- the product along a path -/
def zpp (J : Nat → Nat → Int) (u : Nat) : List Nat → Nat → Int
  | [], v => J u v
  | x :: l, v => J u x * zpp J x l v
theorem zpp_snoc {J : Nat → Nat → Int} : ∀ {l : List Nat} {u x v : Nat}, zpp J u (l ++ [x]) v = zpp J u l x * J x v
  | [], u, x, v => rfl
  | y :: l, u, x, v => by
    show J u y * zpp J y (l ++ [x]) v = J u y * zpp J y l x * J x v
    rw [zpp_snoc, Int.mul_assoc]
theorem zpp_rev {J : Nat → Nat → Int} (hJ : ∀ u v, J u v = J v u) : ∀ {l : List Nat} {u v : Nat}, zpp J u l.reverse v = zpp J v l u
  | [], u, v => hJ u v
  | x :: l, u, v => by
    rw [List.reverse_cons, zpp_snoc, zpp_rev hJ, hJ x v, Int.mul_comm]
    rfl
def zDD (s : Nat) (l : List Nat) : Bool := decide (l.Nodup ∧ ∀ x, x ∈ l → s < x)
theorem zDD_rev {s : Nat} {l : List Nat} : zDD s l.reverse = zDD s l := by
  unfold zDD
  apply decide_eq_decide.mpr
  have h : l.reverse.Nodup ↔ l.Nodup := by
    show l.reverse.Pairwise _ ↔ l.Pairwise _
    rw [List.pairwise_reverse]
    exact ⟨fun h => h.imp (fun h => Ne.symm h), fun h => h.imp (fun h => Ne.symm h)⟩
  rw [h]
  simp
def zOrd (l : List Nat) : Bool := decide (l.headD 0 < l.reverse.headD 0)
/-- all ways round, and those told once -/
def zWy (J : Nat → Nat → Int) (N s k : Nat) : Int := zms N k (fun l => if zDD s l then zpp J s l s else 0)
def zRy (J : Nat → Nat → Int) (N s k : Nat) : Int := zms N k (fun l => if zDD s l && zOrd l then zpp J s l s else 0)
theorem zWy_2 {J : Nat → Nat → Int} (hJ : ∀ u v, J u v = J v u) {N s k : Nat} (hk : 2 ≤ k) : zWy J N s k = 2 * zRy J N s k := by
  have e1 : zRy J N s k = zms N k (fun l => if zDD s l && zOrd l.reverse then zpp J s l s else 0) := by
    unfold zRy
    rw [← zms_rev]
    exact zms_ext (fun l _ => by rw [zDD_rev, zpp_rev hJ])
  have e2 : zWy J N s k = zRy J N s k + zms N k (fun l => if zDD s l && zOrd l.reverse then zpp J s l s else 0) := by
    unfold zWy zRy
    rw [← zms_add]
    refine zms_ext (fun l hl => ?_)
    by_cases hd : zDD s l = true
    · rw [hd]
      simp only [Bool.true_and, if_true]
      have hne : l.headD 0 ≠ l.reverse.headD 0 := by
        have hn : l.Nodup := (of_decide_eq_true (by unfold zDD at hd; exact hd) : _ ∧ _).1
        match l, hl with
        | x :: y :: r, _ =>
          intro e
          rw [List.reverse_cons] at e
          cases h : (y :: r).reverse with
          | nil => simp at h
          | cons z t =>
            rw [h] at e
            have e' : x = z := e
            have : z ∈ (y :: r).reverse := by rw [h]; exact List.mem_cons_self
            rw [List.mem_reverse, ← e'] at this
            exact (List.nodup_cons.mp hn).1 this
        | [x], h => simp at h; omega
        | [], h => simp at h; omega
      unfold zOrd
      rw [List.reverse_reverse]
      generalize l.headD 0 = A at *
      generalize l.reverse.headD 0 = B at *
      rcases Nat.lt_or_gt_of_ne hne with h | h
      · rw [decide_eq_true h, decide_eq_false (show ¬ B < A by omega)]; simp
      · rw [decide_eq_true (show B < A from h), decide_eq_false (show ¬ A < B by omega)]; simp
    · rw [if_neg hd]
      simp [hd]
  rw [e2, ← e1]; omega
/-- what can follow behind a prefix -/
def zHc (J : Nat → Nat → Int) (N s k : Nat) (p : List Nat) : Int := zms N k (fun l => if zDD s (p ++ l) then zpp J (p.getLastD s) l s else 0)
def zHr (J : Nat → Nat → Int) (N s k : Nat) (p : List Nat) : Int := zms N k (fun l => if zDD s (p ++ l) && zOrd (p ++ l) then zpp J (p.getLastD s) l s else 0)
theorem zlastD {p : List Nat} {s v : Nat} : (p ++ [v]).getLastD s = v := by simp [List.getLastD_eq_getLast?]
theorem zDD_no {s v : Nat} {p l : List Nat} (h : zDD s (p ++ [v]) = false) : zDD s (p ++ v :: l) = false := by
  by_cases h1 : zDD s (p ++ v :: l) = true
  · exfalso
    have h2 : (p ++ v :: l).Nodup ∧ ∀ x, x ∈ p ++ v :: l → s < x := of_decide_eq_true h1
    have h3 : (p ++ [v]).Nodup ∧ ∀ x, x ∈ p ++ [v] → s < x := by
      refine ⟨?_, fun x hx => h2.2 x ?_⟩
      · have := h2.1
        rw [show p ++ v :: l = (p ++ [v]) ++ l by simp] at this
        exact (List.nodup_append.mp this).1
      · simp only [List.mem_append, List.mem_cons, List.not_mem_nil, or_false] at hx ⊢
        rcases hx with h | h
        · exact Or.inl h
        · exact Or.inr (Or.inl h)
    have : zDD s (p ++ [v]) = true := decide_eq_true h3
    rw [h] at this; cases this
  · simpa using h1
theorem zHc_step {J : Nat → Nat → Int} {N s k : Nat} {p : List Nat} : zHc J N s (k + 1) p = zs N (fun v => if zDD s (p ++ [v]) then J (p.getLastD s) v * zHc J N s k (p ++ [v]) else 0) := by
  unfold zHc
  show zs N (fun v => zms N k (fun l => if zDD s (p ++ v :: l) then zpp J (p.getLastD s) (v :: l) s else 0)) = _
  refine zs_ext (fun v _ => ?_)
  by_cases h : zDD s (p ++ [v]) = true
  · rw [if_pos h, ← zms_mul]
    refine zms_ext (fun l _ => ?_)
    rw [zlastD, List.append_assoc, List.singleton_append]
    split
    · rfl
    · rw [Int.mul_zero]
  · rw [if_neg h]
    rw [zms_ext (G := fun _ => 0) (fun l _ => ?_), zms_0]
    rw [zDD_no (by simpa using h)]; rfl
theorem zHr_step {J : Nat → Nat → Int} {N s k : Nat} {p : List Nat} : zHr J N s (k + 1) p = zs N (fun v => if zDD s (p ++ [v]) then J (p.getLastD s) v * zHr J N s k (p ++ [v]) else 0) := by
  unfold zHr
  show zs N (fun v => zms N k (fun l => if zDD s (p ++ v :: l) && zOrd (p ++ v :: l) then zpp J (p.getLastD s) (v :: l) s else 0)) = _
  refine zs_ext (fun v _ => ?_)
  by_cases h : zDD s (p ++ [v]) = true
  · rw [if_pos h, ← zms_mul]
    refine zms_ext (fun l _ => ?_)
    rw [zlastD, List.append_assoc, List.singleton_append]
    split
    · rfl
    · rw [Int.mul_zero]
  · rw [if_neg h]
    rw [zms_ext (G := fun _ => 0) (fun l _ => ?_), zms_0]
    rw [zDD_no (by simpa using h)]; rfl
theorem zHc_nil {J : Nat → Nat → Int} {N s k : Nat} : zHc J N s k [] = zWy J N s k := rfl
theorem zHr_nil {J : Nat → Nat → Int} {N s k : Nat} : zHr J N s k [] = zRy J N s k := rfl
theorem zHr_base {J : Nat → Nat → Int} {N s : Nat} {p : List Nat} : zHr J N s 0 p = if zDD s p && zOrd p then J (p.getLastD s) s else 0 := by
  show (if zDD s (p ++ []) && zOrd (p ++ []) then zpp J (p.getLastD s) [] s else 0) = _
  rw [List.append_nil]; rfl
/-- bounds -/
theorem zHc_b {J : Nat → Nat → Int} {N s : Nat} {D : Int} (hD : 0 ≤ D) (hJ0 : ∀ u v, 0 ≤ J u v) (hJD : ∀ u v, u < N → v < N → J u v ≤ D) (hrow : ∀ u, u < N → zs N (fun v => J u v) ≤ D) (hs : s < N) : ∀ (k : Nat) (p : List Nat), (∀ x, x ∈ p → x < N) → 0 ≤ zHc J N s k p ∧ zHc J N s k p ≤ D ^ (k + 1) := by
  intro k
  induction k with
  | zero =>
    intro p hp
    have hl : p.getLastD s < N := by
      rw [List.getLastD_eq_getLast?]
      cases h : p.getLast? with
      | none => exact hs
      | some z => exact hp z (List.mem_of_getLast? h)
    show 0 ≤ (if zDD s (p ++ []) then zpp J (p.getLastD s) [] s else 0) ∧ (if zDD s (p ++ []) then zpp J (p.getLastD s) [] s else 0) ≤ D ^ (0 + 1)
    have h1 := hJ0 (p.getLastD s) s
    have h2 := hJD (p.getLastD s) s hl hs
    rw [show D ^ (0 + 1) = D by rw [Int.pow_succ]; simp]
    split
    · exact ⟨h1, h2⟩
    · omega
  | succ k ih =>
    intro p hp
    have hl : p.getLastD s < N := by
      rw [List.getLastD_eq_getLast?]
      cases h : p.getLast? with
      | none => exact hs
      | some z => exact hp z (List.mem_of_getLast? h)
    rw [zHc_step]
    have hpow : 0 ≤ D ^ (k + 1) := Int.pow_nonneg hD
    refine ⟨zs_nn (fun v hv => ?_), ?_⟩
    · split
      · have := ih (p ++ [v]) (fun x hx => by
          rw [List.mem_append, List.mem_singleton] at hx
          rcases hx with h | h
          · exact hp x h
          · rw [h]; exact hv)
        exact Int.mul_nonneg (hJ0 _ _) this.1
      · exact Int.le_refl _
    · have h1 : zs N (fun v => if zDD s (p ++ [v]) then J (p.getLastD s) v * zHc J N s k (p ++ [v]) else 0) ≤ zs N (fun v => D ^ (k + 1) * J (p.getLastD s) v) := by
        refine zs_le (fun v hv => ?_)
        have := ih (p ++ [v]) (fun x hx => by
          rw [List.mem_append, List.mem_singleton] at hx
          rcases hx with h | h
          · exact hp x h
          · rw [h]; exact hv)
        have hj := hJ0 (p.getLastD s) v
        split
        · rw [Int.mul_comm]
          exact Int.mul_le_mul_of_nonneg_right this.2 hj
        · exact Int.mul_nonneg hpow hj
      rw [zs_mul] at h1
      have h2 : D ^ (k + 1) * zs N (fun v => J (p.getLastD s) v) ≤ D ^ (k + 1) * D := Int.mul_le_mul_of_nonneg_left (hrow _ hl) hpow
      rw [show D ^ (k + 1 + 1) = D ^ (k + 1) * D from Int.pow_succ ..]
      exact Int.le_trans h1 h2
