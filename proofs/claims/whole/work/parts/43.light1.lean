/-! THE LIGHTEST RING: what it must be -/
def zJx (N L : Nat) (a b : Nat → Nat) (x : Nat) (l u v : Nat) : Prop := zJ N L a b l u v ∧ l ≠ x
theorem zjw_J {N L : Nat} {a b : Nat → Nat} {w : Nat → Int} {inf : Int} (hw : ∀ l, l < L → 1 ≤ w l ∧ w l ≤ 99) (hinf : 6100 < inf) (hN : N ≤ 60) : zjw N L (zJ N L a b) w inf := ⟨fun l u v h => ⟨h.1, h.2.1, h.2.2.1, zJ_sym h⟩, fun l u v v' h h' => zJ_other h h', hw, hinf, hN⟩
theorem zjw_Jx {N L : Nat} {a b : Nat → Nat} {w : Nat → Int} {inf : Int} {x : Nat} (hw : ∀ l, l < L → 1 ≤ w l ∧ w l ≤ 99) (hinf : 6100 < inf) (hN : N ≤ 60) : zjw N L (zJx N L a b x) w inf := ⟨fun l u v h => ⟨h.1.1, h.1.2.1, h.1.2.2.1, zJ_sym h.1, h.2⟩, fun l u v v' h h' => zJ_other h.1 h'.1, hw, hinf, hN⟩
def zDl (N L : Nat) (a b : Nat → Nat) (w : Nat → Int) (l : Nat) (z : Int) : Prop := ∃ (inf : Int) (C vi lb : Nat → Int), 6100 < inf ∧ zDC N (zJx N L a b l) w inf (a l) C vi lb ∧ C (b l) < inf ∧ z = C (b l) + w l
def zLt (N L : Nat) (a b : Nat → Nat) (w : Nat → Int) (z : Int) : Prop := (z = -1 ∧ ∀ l, l < L → ∀ y, ¬ zDl N L a b w l y) ∨ (∃ l, l < L ∧ zDl N L a b w l z ∧ ∀ l' y, l' < L → zDl N L a b w l' y → z ≤ y)
theorem zLt_u {N L : Nat} {a b : Nat → Nat} {w : Nat → Int} {z z' : Int} (h : zLt N L a b w z) (h' : zLt N L a b w z') : z = z' := by
  rcases h with ⟨rfl, h⟩ | ⟨l, h1, h2, h3⟩
  · rcases h' with ⟨rfl, _⟩ | ⟨l, h1, h2, _⟩
    · rfl
    · exact absurd h2 (h l h1 _)
  · rcases h' with ⟨rfl, h'⟩ | ⟨l', h1', h2', h3'⟩
    · exact absurd h2 (h' l h1 _)
    · have := h3 l' z' h1' h2'
      have := h3' l z h1 h2
      omega
theorem zDl_b {N L : Nat} {a b : Nat → Nat} {w : Nat → Int} (hw : ∀ l, l < L → 1 ≤ w l ∧ w l ≤ 99) (hab : ∀ l, l < L → a l < N ∧ b l < N) {l : Nat} (hl : l < L) {z : Int} (h : zDl N L a b w l z) : 1 ≤ z ∧ z ≤ 6039 := by
  obtain ⟨inf, C, vi, lb, h1, h2, h3, h4⟩ := h
  have e1 := hw l hl
  have e2 := h2.2.1 (b l) (hab l hl).2
  omega
theorem zDl_u {N L : Nat} {a b : Nat → Nat} {w : Nat → Int} (hw : ∀ l, l < L → 1 ≤ w l ∧ w l ≤ 99) (hab : ∀ l, l < L → a l < N ∧ b l < N) (hN : N ≤ 60) {l : Nat} (hl : l < L) {z z' : Int} (h : zDl N L a b w l z) (h' : zDl N L a b w l z') : z = z' := by
  obtain ⟨inf, C, vi, lb, h1, h2, h3, h4⟩ := h
  obtain ⟨inf', C', vi', lb', h1', h2', h3', h4'⟩ := h'
  have e1 := (zDC_le' (zjw_Jx hw h1 hN) (zjw_Jx hw h1' hN) (fun _ _ _ h => h) h2 h2' (hab l hl).2 h3).2
  have e2 := (zDC_le' (zjw_Jx hw h1' hN) (zjw_Jx hw h1 hN) (fun _ _ _ h => h) h2' h2 (hab l hl).2 h3').2
  omega
def zOff (a b : Nat → Nat) (inf : Int) (C vi : Nat → Int) (l : Nat) : Prop := vi (a l) ≠ l ∧ vi (b l) ≠ l ∧ C (a l) < inf ∧ C (b l) < inf
theorem zLtA {N L : Nat} {a b : Nat → Nat} {w : Nat → Int} (hw : ∀ l, l < L → 1 ≤ w l ∧ w l ≤ 99) (hab : ∀ l, l < L → a l < N ∧ b l < N) (hN : N ≤ 60) {l : Nat} (hl : l < L) {inf : Int} (hinf : 6100 < inf) {C vi lb : Nat → Int} (H : zDC N (zJ N L a b) w inf (a l) C vi lb) {y : Int} (hy : zDl N L a b w l y) : ∃ l', l' < L ∧ zOff a b inf C vi l' ∧ C (a l') + C (b l') + w l' ≤ y := by
  obtain ⟨inf', C', vi', lb', h1, H', h3, rfl⟩ := hy
  have W := zjw_J (a := a) (b := b) hw hinf hN
  have W' := zjw_Jx (a := a) (b := b) (x := l) hw h1 hN
  have hN' := hab l hl
  have hjl : zJ N L a b l (a l) (b l) := ⟨hl, hN'.1, hN'.2, Or.inl ⟨rfl, rfl⟩⟩
  have cmp := zDC_le' W' W (fun _ _ _ h => h.1) H' H hN'.2 h3
  have hr0 := H.1.2.1
  have hvr := H.1.2.2
  have hwl := hw l hl
  have hCr : C (a l) < inf := by rw [hr0]; omega
  by_cases hvl : vi (b l) = l
  · have hne : b l ≠ a l := by intro e; rw [e, hvr] at hvl; omega
    have par : ∀ (x p l0 : Nat), x < N → x ≠ a l → C x < inf → vi x = (l0 : Nat) → zJ N L a b l0 p x → C x = C p + w l0 ∧ lb x = if p = a l then (l0 : Int) else lb p := by
      intro x p l0 hx hxr hCx hvx hj
      obtain ⟨l1, u1, a1, a2, a3, a4, a5⟩ := H.2.2.1 x hx hxr hCx
      have e1 : l1 = l0 := by omega
      subst e1
      have e2 : u1 = p := zJ_other (zJ_sym a1) (zJ_sym hj)
      subst e2
      exact ⟨a4, a5⟩
    have pv := par (b l) (a l) l hN'.2 hne cmp.1 hvl hjl
    rw [if_pos rfl] at pv
    obtain ⟨k, c, le, c0, ck, cj, cf⟩ := zdpath W' H' (C' (b l)).toNat (b l) hN'.2 h3 (by have := (H'.2.1 _ hN'.2).1; omega)
    have cN : ∀ i, i ≤ k → c i < N := by
      intro i hi
      by_cases e : i = k
      · subst e; rw [ck]; exact hN'.2
      · exact (W'.1 _ _ _ (cj i (by omega)).1).2.1
    have cle : ∀ i, i ≤ k → C (c i) < inf ∧ C (c i) ≤ C' (c i) := fun i hi => zDC_le' W' W (fun _ _ _ h => h.1) H' H (cN i hi) (cf i hi)
    have back : ∀ j i, i + j = k → C (c i) ≤ w l + C' (b l) - C' (c i) := by
      intro j
      induction j with
      | zero => intro i e; rw [show i = k by omega, ck, pv.1, hr0]; omega
      | succ j ih =>
        intro i e
        have e1 := ih (i + 1) (by omega)
        have e2 := cj i (by omega)
        have e3 := H.2.2.2 (le i) (c (i + 1)) (c i) (zJ_sym e2.1.1) (cle (i + 1) (by omega)).1
        omega
    have hk : 1 ≤ k := by
      rcases Nat.eq_zero_or_pos k with h | h
      · subst h; exact absurd (ck.symm.trans c0) hne
      · exact h
    have pos : ∀ i, 1 ≤ i → i ≤ k → c i ≠ a l := by
      have inc : ∀ i, 1 ≤ i → i ≤ k → 1 ≤ C' (c i) := by
        intro i h1 h2
        have e2 := (cj (i - 1) (by omega)).2.2
        rw [show i - 1 + 1 = i by omega] at e2
        have e3 := (H'.2.1 (c (i - 1)) (cN _ (by omega))).1
        have e4 := hw _ (cj (i - 1) (by omega)).1.1.1
        omega
      intro i h1 h2 e
      have := inc i h1 h2
      rw [e, H'.1.2.1] at this
      omega
    -- some link of the way is off the tree
    have hoff : ∃ i, i < k ∧ vi (c i) ≠ le i ∧ vi (c (i + 1)) ≠ le i := by
      by_cases hex : ∃ i, i < k ∧ vi (c i) ≠ le i ∧ vi (c (i + 1)) ≠ le i
      · exact hex
      · exfalso
        have tree : ∀ i, i < k → vi (c i) = le i ∨ vi (c (i + 1)) = le i := by
          intro i hi
          by_cases e1 : vi (c i) = le i
          · exact Or.inl e1
          · by_cases e2 : vi (c (i + 1)) = le i
            · exact Or.inr e2
            · exact absurd ⟨i, hi, e1, e2⟩ hex
        have t0 : vi (c 1) = le 0 := by
          rcases tree 0 (by omega) with h | h
          · rw [c0, hvr] at h; omega
          · exact h
        have l1 : lb (c 1) = le 0 := by
          have j0 := (cj 0 (by omega)).1.1
          rw [c0] at j0
          have := (par (c 1) (a l) (le 0) (cN 1 (by omega)) (pos 1 (by omega) (by omega)) (cle 1 (by omega)).1 t0 j0).2
          rwa [if_pos rfl] at this
        have same : ∀ i, 1 ≤ i → i ≤ k → lb (c i) = le 0 := by
          intro i
          induction i with
          | zero => intro h; omega
          | succ i ih =>
            intro _ h2
            by_cases ei : i = 0
            · subst ei; exact l1
            · have e1 := ih (by omega) (by omega)
              have n1 := pos i (by omega) (by omega)
              have n2 := pos (i + 1) (by omega) (by omega)
              have ji := (cj i (by omega)).1.1
              rcases tree i (by omega) with h | h
              · have := (par (c i) (c (i + 1)) (le i) (cN i (by omega)) n1 (cle i (by omega)).1 h (zJ_sym ji)).2
                rw [if_neg n2] at this
                omega
              · have := (par (c (i + 1)) (c i) (le i) (cN (i + 1) (by omega)) n2 (cle (i + 1) (by omega)).1 h ji).2
                rw [if_neg n1] at this
                omega
        have e1 := same k hk (Nat.le_refl _)
        rw [ck, pv.2] at e1
        exact (cj 0 (by omega)).1.2 (by omega)
    obtain ⟨i, hi, o1, o2⟩ := hoff
    have ji := (cj i hi).1.1
    have c1 := cle i (by omega)
    have c2 := cle (i + 1) (by omega)
    have b2 := back (k - (i + 1)) (i + 1) (by omega)
    have e2 := (cj i hi).2.2
    refine ⟨le i, ji.1, ?_, ?_⟩
    · rcases ji.2.2.2 with ⟨x1, x2⟩ | ⟨x1, x2⟩
      · unfold zOff; rw [x1, x2]; exact ⟨o1, o2, c1.1, c2.1⟩
      · unfold zOff; rw [x1, x2]; exact ⟨o2, o1, c2.1, c1.1⟩
    · rw [zJ_val ji]
      omega
  · exact ⟨l, hl, ⟨by rw [hvr]; omega, hvl, hCr, cmp.1⟩, by rw [hr0]; omega⟩
theorem zLtB {N L : Nat} {a b : Nat → Nat} {w : Nat → Int} (hw : ∀ l, l < L → 1 ≤ w l ∧ w l ≤ 99) (hab : ∀ l, l < L → a l < N ∧ b l < N) (hN : N ≤ 60) {l : Nat} (hl : l < L) {inf : Int} (hinf : 6100 < inf) {r : Nat} {C vi lb : Nat → Int} (H : zDC N (zJ N L a b) w inf r C vi lb) (ho : zOff a b inf C vi l) : ∃ y, zDl N L a b w l y ∧ y ≤ C (a l) + C (b l) + w l := by
  have W := zjw_J (a := a) (b := b) hw hinf hN
  have W' := zjw_Jx (a := a) (b := b) (x := l) hw hinf hN
  have hN' := hab l hl
  obtain ⟨C', vi', lb', H'⟩ := zDC_ex W' hN'.1
  obtain ⟨o1, o2, o3, o4⟩ := ho
  have fin : ∀ x, x < N → C' x ≤ 6039 → C' x < inf := fun x hx h => by omega
  have fin2 : ∀ x, x < N → C' x < inf → C' x ≤ 5940 := fun x hx h => by
    rcases (H'.2.1 x hx).2 with h1 | h1
    · omega
    · exact h1
  have offl : ∀ (c le : Nat → Nat) (i : Nat), zJ N L a b (le i) (c i) (c (i + 1)) → vi (c (i + 1)) = le i → le i ≠ l := by
    intro c le i hj hv e
    rw [e] at hj hv
    rcases hj.2.2.2 with ⟨_, x2⟩ | ⟨x1, _⟩
    · rw [← x2] at hv; exact o2 hv
    · rw [← x1] at hv; exact o1 hv
  obtain ⟨k, c, le, c0, ck, cj, cf⟩ := zdpath W H (C (a l)).toNat (a l) hN'.1 o3 (by have := (H.2.1 _ hN'.1).1; omega)
  have up : ∀ j i, i + j = k → C' (c i) < inf ∧ C' (c i) ≤ C (a l) - C (c i) := by
    intro j
    induction j with
    | zero => intro i e; rw [show i = k by omega, ck, H'.1.2.1]; omega
    | succ j ih =>
      intro i e
      have e1 := ih (i + 1) (by omega)
      have e2 := cj i (by omega)
      have e3 := H'.2.2.2 (le i) (c (i + 1)) (c i) ⟨zJ_sym e2.1, offl c le i e2.1 e2.2.1⟩ e1.1
      have e4 := hw _ e2.1.1
      have e5 := fin2 _ e2.1.2.2.1 e1.1
      exact ⟨fin _ e2.1.2.1 (by omega), by omega⟩
  obtain ⟨k', c', le', c0', ck', cj', cf'⟩ := zdpath W H (C (b l)).toNat (b l) hN'.2 o4 (by have := (H.2.1 _ hN'.2).1; omega)
  have u0 := up k 0 (by omega)
  rw [c0, H.1.2.1] at u0
  have down : ∀ i, i ≤ k' → C' (c' i) < inf ∧ C' (c' i) ≤ C (a l) + C (c' i) := by
    intro i
    induction i with
    | zero => intro _; rw [c0', H.1.2.1]; omega
    | succ i ih =>
      intro hi
      have e1 := ih (by omega)
      have e2 := cj' i (by omega)
      have e3 := H'.2.2.2 (le' i) (c' i) (c' (i + 1)) ⟨e2.1, offl c' le' i e2.1 e2.2.1⟩ e1.1
      have e4 := hw _ e2.1.1
      have e5 := fin2 _ e2.1.2.1 e1.1
      exact ⟨fin _ e2.1.2.2.1 (by omega), by omega⟩
  have d := down k' (Nat.le_refl _)
  rw [ck'] at d
  exact ⟨C' (b l) + w l, ⟨inf, C', vi', lb', hinf, H', d.1, rfl⟩, by omega⟩
