/-! A WORKS HAS FEW LINKS AT A NODE -/
theorem zrow_deg {N : Nat} {a b : Nat → Nat} {u : Nat} : ∀ L, (∀ l, l < L → a l < N ∧ b l < N) → zs N (fun v => zJm L a b u v) ≤ zdeg L a b u
  | 0, _ => by
    have : ∀ v, zJm 0 a b u v = 0 := fun v => by unfold zJm; split <;> rfl
    rw [zs_ext (G := fun _ => 0) (fun v _ => this v), zs_0]; omega
  | L + 1, hab => by
    have ih := zrow_deg (u := u) L (fun l hl => hab l (by omega))
    have h1 := hab L (by omega)
    have e1 : zs N (fun v => zJm (L + 1) a b u v) ≤ zs N (fun v => zJm L a b u v + ((if v = b L then (if a L = u then 1 else 0) else 0) + (if v = a L then (if b L = u then 1 else 0) else 0))) := by
      refine zs_le (fun v _ => ?_)
      unfold zJm
      by_cases e : u = v
      · rw [if_pos e, if_pos e]
        have h2 : (0 : Int) ≤ (if v = b L then (if a L = u then 1 else 0) else 0) := by split <;> (try split) <;> omega
        have h3 : (0 : Int) ≤ (if v = a L then (if b L = u then 1 else 0) else 0) := by split <;> (try split) <;> omega
        omega
      · rw [if_neg e, if_neg e, zjn_succ]
        by_cases h2 : a L = u ∧ b L = v
        · rw [if_pos (Or.inl h2), if_pos h2.2.symm, if_pos h2.1, if_neg (by omega)]; omega
        · by_cases h3 : a L = v ∧ b L = u
          · rw [if_pos (Or.inr h3), if_pos h3.1.symm, if_pos h3.2, if_neg (by omega)]; omega
          · rw [if_neg (by omega)]
            have h4 : (0 : Int) ≤ (if v = b L then (if a L = u then 1 else 0) else 0) := by split <;> (try split) <;> omega
            have h5 : (0 : Int) ≤ (if v = a L then (if b L = u then 1 else 0) else 0) := by split <;> (try split) <;> omega
            omega
    rw [zs_add, zs_add, zs_one (x := b L) h1.2 (fun v _ h => if_neg h), zs_one (x := a L) h1.1 (fun v _ h => if_neg h), if_pos rfl, if_pos rfl] at e1
    rw [zdeg_succ]
    have e2 : (((if a L = u then 1 else 0 : Nat)) : Int) = (if a L = u then (1 : Int) else 0) := by split <;> rfl
    have e3 : (((if b L = u then 1 else 0 : Nat)) : Int) = (if b L = u then (1 : Int) else 0) := by split <;> rfl
    rw [Int.natCast_add, Int.natCast_add, e2, e3]
    have e4 : zs N (zJm L a b u) = zs N (fun v => zJm L a b u v) := rfl
    omega
theorem zb_sum {L : Nat} {a b : Nat → Nat} : ∀ N, zs N (fun u => (zdeg L a b u : Int)) = zb L a b N
  | 0 => rfl
  | N + 1 => by
    show zs N (fun u => (zdeg L a b u : Int)) + (zdeg L a b N : Int) = ((zb L a b N + zdeg L a b N : Nat) : Int)
    rw [zb_sum N]; omega
theorem zcnt_list {α : Type} {l : List α} {d : α} {P : α → Bool} : ∀ k, k ≤ l.length → zcnt (fun i => P (l.getD i d)) k = (l.take k).countP P
  | 0, _ => by simp [zcnt]
  | k + 1, h => by
    have hk : k < l.length := by omega
    unfold zcnt
    rw [zcnt_list k (by omega), List.take_succ_eq_append_getElem hk, List.countP_append, List.getD_eq_getElem?_getD, List.getElem?_eq_getElem hk]
    simp [List.countP_cons]
theorem zLx_one {A : Nat → Int} {ar : Nat} {P : Nat × Nat × Nat × Nat → Bool} : ∀ n, (∀ x y, x < y → y < n → P (zLi A ar x) = true → P (zLi A ar y) = true → False) → (zLx A ar n).countP P ≤ 1
  | 0, _ => by simp [zLx]
  | n + 1, h => by
    unfold zLx
    rw [List.countP_append]
    have ih := zLx_one (A := A) (ar := ar) (P := P) n (fun x y h1 h2 => h x y h1 (by omega))
    by_cases hp : P (zLi A ar n) = true
    · have h0 : (zLx A ar n).countP P = 0 := by
        rw [List.countP_eq_zero]
        intro z hz hPz
        obtain ⟨x, hx, rfl⟩ := zLx_mem n hz
        exact h x n hx (by omega) hPz hp
      rw [h0]
      split
      · rw [List.countP_cons]; simp [hp]
      · simp
    · have : (if zLb A ar n = true then [zLi A ar n] else []).countP P = 0 := by
        split
        · rw [List.countP_cons]; simp [hp]
        · rfl
      omega
theorem zLs_few {A : Nat → Int} {P : Nat × Nat × Nat × Nat → Bool} : ∀ n, (∀ ar, ar < n → ∀ x y, x < y → y < (A 4).toNat → P (zLi A ar x) = true → P (zLi A ar y) = true → False) → (zLs A n).countP P ≤ n
  | 0, _ => by simp [zLs]
  | n + 1, h => by
    unfold zLs
    rw [List.countP_append]
    have ih := zLs_few (A := A) (P := P) n (fun ar har => h ar (by omega))
    have h1 := zLx_one (A := A) (ar := n) (P := P) (A 4).toNat (h n (by omega))
    split
    · simp; omega
    · omega
theorem zFew_A {A : Nat → Int} (hA : wA A) : zFew (zNn A) (zLk A).length (zFa A) (zFb A) := by
  have h6 := hA.2.2.1
  have h4 := gOK_n hA.1
  have hlen := zLk_len hA
  have hab : ∀ l, l < (zLk A).length → zFa A l < zNn A ∧ zFb A l < zNn A := fun l hl => ⟨(zLk_b hA hl).1, (zLk_b hA hl).2.1⟩
  have hd : ∀ u, zdeg (zLk A).length (zFa A) (zFb A) u ≤ 24 := by
    intro u
    have e1 : zcnt (fun l => decide (zFa A l = u)) (zLk A).length ≤ 12 := by
      have := zcnt_list (l := zLk A) (d := (0, 0, 0, 0)) (P := fun z => decide (z.2.2.1 = u)) (zLk A).length (Nat.le_refl _)
      have h1 : zcnt (fun l => decide (zFa A l = u)) (zLk A).length = zcnt (fun i => (fun z : Nat × Nat × Nat × Nat => decide (z.2.2.1 = u)) ((zLk A).getD i (0, 0, 0, 0))) (zLk A).length := rfl
      rw [h1, this, List.take_of_length_le (Nat.le_refl _)]
      have := zLs_few (A := A) (P := fun z => decide (z.2.2.1 = u)) (A 6).toNat (fun ar har x y hxy hy hx hy2 => by
        have b1 := zLi_b hA (ar := ar) (x := x) (by omega) (by omega)
        have b2 := zLi_b hA (ar := ar) (x := y) (by omega) (by omega)
        simp only [decide_eq_true_eq] at hx hy2
        omega)
      unfold zLk
      omega
    have e2 : zcnt (fun l => decide (zFb A l = u)) (zLk A).length ≤ 12 := by
      have := zcnt_list (l := zLk A) (d := (0, 0, 0, 0)) (P := fun z => decide (z.2.2.2 = u)) (zLk A).length (Nat.le_refl _)
      have h1 : zcnt (fun l => decide (zFb A l = u)) (zLk A).length = zcnt (fun i => (fun z : Nat × Nat × Nat × Nat => decide (z.2.2.2 = u)) ((zLk A).getD i (0, 0, 0, 0))) (zLk A).length := rfl
      rw [h1, this, List.take_of_length_le (Nat.le_refl _)]
      have := zLs_few (A := A) (P := fun z => decide (z.2.2.2 = u)) (A 6).toNat (fun ar har x y hxy hy hx hy2 => by
        have b1 := zLi_b hA (ar := ar) (x := x) (by omega) (by omega)
        have b2 := zLi_b hA (ar := ar) (x := y) (by omega) (by omega)
        simp only [decide_eq_true_eq] at hx hy2
        have ha := hA.2.2.2.1 ar (by omega)
        have := g_inj hA.1 (x := (x : Int)) (y := (y : Int)) (g := A (49 + ar)) (by omega) (by omega) (by omega) (by omega) ha.2.2.2.1 ha.2.2.2.2 (by omega)
        omega)
      unfold zLk
      omega
    unfold zdeg
    omega
  refine ⟨fun u _ => ?_, ?_⟩
  · have h1 := zrow_deg (N := zNn A) (u := u) (zLk A).length hab
    have h2 := hd u
    omega
  · have h1 : zs (zNn A) (fun u => zs (zNn A) (fun v => zJm (zLk A).length (zFa A) (zFb A) u v)) ≤ zs (zNn A) (fun u => (zdeg (zLk A).length (zFa A) (zFb A) u : Int)) := zs_le (fun u _ => zrow_deg (zLk A).length hab)
    rw [zb_sum] at h1
    have h2 := zb_le (a := zFa A) (b := zFb A) (N := zNn A) (zLk A).length
    omega
