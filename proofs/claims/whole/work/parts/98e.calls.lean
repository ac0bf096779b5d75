/-! CALLS: each keeps the state and answers alike -/
section CLS
variable {f : Nat} {m : aj_M} {X : aj_M → Prop}
theorem cl_fault (hf : 10000 ≤ f) (H : gInv m) (hX : ∀ m', gInv m' → X m') {v : Int} (hv : rI v) (G : Int → aj_M → Prop) (hG : ∀ z m1, wX12_fault f (fun z2 m2 => rI z ∧ rI z2 ∧ (z = z2 → X m2) ∧ (¬ z = z2 → False)) [1] v m1 → G z m1) : wX11_fault f G [0] v m := by
  obtain ⟨A, S, N, V, I, T, n, fk, fa, P, C, R⟩ := H
  refine pX11_fault hv (hG _ _ (pX12_fault hv ?_))
  rw [C.1.2.2.2.2.1, C.1.2.2.2.2.2, R.2.2.2.2.1, R.2.2.2.2.2]
  refine q2 rfl ?_ (hX _ (inv_q P C kC_rZ (RI_rZ R)))
  obtain ⟨_, _, _, _, _, _, p7, p8⟩ := P
  unfold zFlt
  split
  · exact p7
  · split
    · exact p8
    · decide
theorem cl_arc (hf : 10000 ≤ f) (H : gInv m) (hX : ∀ m', gInv m' → X m') {v w : Int} (hv : rI v) (hw : rI w) (G : Int → aj_M → Prop) (hG : ∀ z m1, wX12_arc f (fun z2 m2 => rI z ∧ rI z2 ∧ (z = z2 → X m2) ∧ (¬ z = z2 → False)) [1] v w m1 → G z m1) : wX11_arc f G [0] v w m := by
  obtain ⟨A, S, N, V, I, T, n, fk, fa, P, C, R⟩ := H
  refine pX11_arc P.1 C.2.1.1 C.2.2.1 hv hw (hG _ _ (pX12_arc P.1 (fun j _ => congrFun R.1 j) hv hw (q2 rfl ?_ (hX _ (inv_q P C kC_rZ (RI_rZ R))))))
  unfold zArc
  split
  · next c =>
    have a := P.1.2.2.2.1 v.toNat (by omega)
    have a5 := P.1.2.1
    have a4 := gOK_n P.1.1
    split
    · exact ⟨by omega, by omega⟩
    · split
      · exact ⟨by omega, by omega⟩
      · split
        · exact ⟨by omega, by omega⟩
        · split
          · rcases a.2.2.1 with e | e
            · rw [e]; decide
            · rw [e.1]; decide
          · split
            · split <;> decide
            · decide
  · decide
theorem cl_product (hf : 10000 ≤ f) (H : gInv m) (hX : ∀ m', gInv m' → X m') {v w : Int} (hv : rI v) (hw : rI w) (G : Int → aj_M → Prop) (hG : ∀ z m1, wX12_product f (fun z2 m2 => rI z ∧ rI z2 ∧ (z = z2 → X m2) ∧ (¬ z = z2 → False)) [1] v w m1 → G z m1) : wX11_product f G [0] v w m := by
  obtain ⟨A, S, N, V, I, T, n, fk, fa, P, C, R⟩ := H
  refine pX11_product P.1 C.2.1.1 hv hw (hG _ _ (pX12_product P.1 (fun j _ => congrFun R.1 j) hv hw (q2 rfl ?_ (hX _ (inv_q P C kC_rZ (RI_rZ R))))))
  have a4 := gOK_n P.1.1
  unfold zPrd
  split
  · next c =>
    have := g_fact P.1.1 c.1.1 c.1.2 c.2.1 c.2.2
    exact ⟨by omega, by omega⟩
  · decide
theorem cl_inverse (hf : 10000 ≤ f) (H : gInv m) (hX : ∀ m', gInv m' → X m') {v : Int} (hv : rI v) (G : Int → aj_M → Prop) (hG : ∀ z m1, wX12_inverse f (fun z2 m2 => rI z ∧ rI z2 ∧ (z = z2 → X m2) ∧ (¬ z = z2 → False)) [1] v m1 → G z m1) : wX11_inverse f G [0] v m := by
  obtain ⟨A, S, N, V, I, T, n, fk, fa, P, C, R⟩ := H
  refine pX11_inverse P.1 C.2.1.1 hv (hG _ _ (pX12_inverse (by omega) P.1 (fun j _ => congrFun R.1 j) hv (q2 rfl ?_ (hX _ (inv_q P C kC_rZ (RI_rZ R))))))
  have a4 := gOK_n P.1.1
  unfold zInv
  split
  · next c =>
    have := g_fact P.1.1 c.1 c.2 c.1 c.2
    exact ⟨by omega, by omega⟩
  · decide
theorem cl_orderOf (hf : 10000 ≤ f) (H : gInv m) (hX : ∀ m', gInv m' → X m') {v : Int} (hv : rI v) (G : Int → aj_M → Prop) (hG : ∀ z m1, wX12_orderOf f (fun z2 m2 => rI z ∧ rI z2 ∧ (z = z2 → X m2) ∧ (¬ z = z2 → False)) [1] v m1 → G z m1) : wX11_orderOf f G [0] v m := by
  obtain ⟨A, S, N, V, I, T, n, fk, fa, P, C, R⟩ := H
  refine pX11_orderOf P.1 C.2.1.1 hv (hG _ _ (pX12_orderOf (by omega) P.1 (fun j _ => congrFun R.1 j) hv (q2 rfl ?_ (hX _ (inv_q P C kC_rZ (RI_rZ R))))))
  unfold zOdr
  split
  · next c => exact rI_gO P.1.1 c.1 c.2
  · decide
theorem zCn_b {A : Nat → Int} : ∀ k, 0 ≤ zCn A k ∧ zCn A k ≤ k
  | 0 => ⟨Int.le_refl 0, Int.le_refl 0⟩
  | k + 1 => by
    have h1 := zCn_b (A := A) k
    have h2 := zCm_b (A := A) (x := k) (A 4).toNat
    unfold zCn
    omega
theorem cl_centre (hf : 10000 ≤ f) (H : gInv m) (hX : ∀ m', gInv m' → X m') (G : Int → aj_M → Prop) (hG : ∀ z m1, wX12_centre f (fun z2 m2 => rI z ∧ rI z2 ∧ (z = z2 → X m2) ∧ (¬ z = z2 → False)) [1] m1 → G z m1) : wX11_centre f G [0] m := by
  obtain ⟨A, S, N, V, I, T, n, fk, fa, P, C, R⟩ := H
  refine pX11_centre (by omega) P.1 C.2.1.1 (hG _ _ (pX12_centre (by omega) P.1 (fun j _ => congrFun R.1 j) (q2 rfl ?_ (hX _ (inv_q P C kC_rZ (RI_rZ R))))))
  have a4 := gOK_n P.1.1
  have := zCn_b (A := A) (A 4).toNat
  exact ⟨by omega, by omega⟩
theorem zBd_r {d g : Int} (hd : 2 ≤ d ∧ d ≤ 9) (hg : 3 ≤ g ∧ g ≤ 12) : 0 ≤ zBd d g ∧ zBd d g ≤ 1000000000 := by
  obtain ⟨i, rfl⟩ : ∃ i : Nat, d = i := ⟨d.toNat, by omega⟩
  obtain ⟨j, rfl⟩ : ∃ j : Nat, g = j := ⟨g.toNat, by omega⟩
  have q : (List.range 10).all (fun i => (List.range 13).all (fun j => decide (0 ≤ zBd (i : Int) (j : Int) ∧ zBd (i : Int) (j : Int) ≤ 1000000000))) = true := by decide +kernel
  rw [List.all_eq_true] at q
  have q1 := q i (List.mem_range.mpr (by omega))
  rw [List.all_eq_true] at q1
  exact of_decide_eq_true (q1 j (List.mem_range.mpr (by omega)))
theorem cl_bound (hf : 10000 ≤ f) (H : gInv m) (hX : ∀ m', gInv m' → X m') {v w : Int} (hv : rI v) (hw : rI w) (G : Int → aj_M → Prop) (hG : ∀ z m1, wX12_bound f (fun z2 m2 => rL z ∧ rL z2 ∧ (z = z2 → X m2) ∧ (¬ z = z2 → False)) [1] v w m1 → G z m1) : wX11_bound f G [0] v w m := by
  obtain ⟨A, S, N, V, I, T, n, fk, fa, P, C, R⟩ := H
  refine pX11_bound (by omega) hv hw (hG _ _ (pX12_bound (by omega) hv hw (q2L rfl ?_ (hX _ (inv_q P C kC_rZ (RI_rZ R))))))
  unfold zBnd
  split
  · next c =>
    have := zBd_r (d := v) (g := w) ⟨c.1, c.2.1⟩ c.2.2
    exact ⟨by omega, by omega⟩
  · decide
theorem tA_b {N : Nat → Int} {v : Int} : -6 ≤ tA N v ∧ tA N v ≤ 0 := by
  unfold tA
  split
  · split <;> decide
  · decide
theorem cl_walk (hf : 10000 ≤ f) (H : gInv m) (hX : ∀ m', gInv m' → X m') {v : Int} (hv : rI v) (G : Int → aj_M → Prop) (hG : ∀ z m1, wX12_walk f (fun z2 m2 => rI z ∧ rI z2 ∧ (z = z2 → X m2) ∧ (¬ z = z2 → False)) [1] v m1 → G z m1) : wX11_walk f G [0] v m := by
  obtain ⟨A, S, N, V, I, T, n, fk, fa, P, C, R⟩ := H
  refine pX11_walk (by omega) P.1 C.2.1.1 C.2.2.1 P.2.2.2.1 C.1.2.2.1 hv (hG _ _ (pX12_walk (by omega) P.1 (fun j _ => congrFun R.1 j) P.2.2.2.1 R.2.2.1 hv (q2 rfl ?_ (hX _ (inv_q P C kC_rZ (RI_rZ R))))))
  have a4 := gOK_n P.1.1
  unfold tWa
  split
  · unfold tWk
    split
    · split
      · next c =>
        have := tGa_b P.1 _ c
        exact ⟨by omega, by omega⟩
      · decide
    · decide
  · exact tA_r
theorem cl_lifted (hf : 10000 ≤ f) (H : gInv m) (hX : ∀ m', gInv m' → X m') {v : Int} (hv : rI v) (G : Int → aj_M → Prop) (hG : ∀ z m1, wX12_lifted f (fun z2 m2 => rI z ∧ rI z2 ∧ (z = z2 → X m2) ∧ (¬ z = z2 → False)) [1] v m1 → G z m1) : wX11_lifted f G [0] v m := by
  obtain ⟨A, S, N, V, I, T, n, fk, fa, P, C, R⟩ := H
  refine pX11_lifted (by omega) P.1 C.2.1.1 C.2.2.1 P.2.2.2.1 C.1.2.2.1 hv (hG _ _ (pX12_lifted (by omega) P.1 (fun j _ => congrFun R.1 j) P.2.2.2.1 R.2.2.1 hv (q2 rfl ?_ (hX _ (inv_q P C kC_rZ (RI_rZ R))))))
  have a4 := gOK_n P.1.1
  unfold tLi
  split
  · next c0 =>
    obtain ⟨t, rfl, ht, hn⟩ := tA_0 c0
    have hb := tO_b P.2.2.2.1 ht
    rw [Int.toNat_natCast]
    split
    · next c1 =>
      split
      · have c2 : (1 ≤ N t ∧ N t ≤ 12) ∧ tQ A (V t) (N t).toNat = true := by
          unfold tNw at c1
          split at c1
          · next c3 =>
            split at c1
            · next c4 => exact ⟨c3, c4⟩
            · omega
          · omega
        have hg := tGa_b P.1 _ c2.2
        have ho := g_fact P.1.1 hg.1 hg.2 hg.1 hg.2
        have h1 : 0 ≤ N t * gO (A 1) (A 2) (A 3) (tGa A (V t) (N t).toNat) := Int.mul_nonneg (by omega) (by omega)
        have h2 : N t * gO (A 1) (A 2) (A 3) (tGa A (V t) (N t).toNat) ≤ 40 * 12 := Int.mul_le_mul (by omega) (by omega) (by omega) (by omega)
        exact ⟨by omega, by omega⟩
      · decide
    · unfold tNw
      split
      · split <;> decide
      · decide
  · exact tA_r
theorem cl_tune (hf : 10000 ≤ f) (H : gInv m) (hX : ∀ m', gInv m' → X m') {v : Int} (hv : rI v) (G : Int → aj_M → Prop) (hG : ∀ z m1, wX12_tune f (fun z2 m2 => rI z ∧ rI z2 ∧ (z = z2 → X m2) ∧ (¬ z = z2 → False)) [1] v m1 → G z m1) : wX11_tune f G [0] v m := by
  obtain ⟨A, S, N, V, I, T, n, fk, fa, P, C, R⟩ := H
  refine pX11_tune (by omega) P.1 C.2.1.1 C.2.1.2 C.2.2.2.2.2 C.2.2.1 hv (fun c => hG _ _ ?_) (fun a ea ha m1 s g hu hs => hG _ _ ?_)
  · exact pX12_tune (by omega) P.1 R.1 hv (fun _ => q2 rfl (by decide) (hX _ (inv_q P C kC_rZ (RI_rZ R)))) (fun a ea ha => absurd ⟨by omega, by omega⟩ c)
  · have C1 := CI_gs C g
    have R1 := RI_k R (kR_gs g)
    refine pX12_tune (by omega) P.1 R1.1 hv (fun c => absurd ⟨by omega, by omega⟩ c) (fun a' ea' ha' m2 s2 st hu2 hs2 => ?_)
    have e : a' = a := by omega
    subst e
    have := zTu_u _ _ _ hu hu2
    subst this
    unfold zTok at hs
    exact q2 rfl ⟨by omega, by omega⟩ (hX _ (inv_q P C1 (kC_st st) (RI_st R1 st)))
theorem cl_tuned (hf : 10000 ≤ f) (H : gInv m) (hX : ∀ m', gInv m' → X m') {v : Int} (hv : rI v) (G : Int → aj_M → Prop) (hG : ∀ z m1, wX12_tuned f (fun z2 m2 => rI z ∧ rI z2 ∧ (z = z2 → X m2) ∧ (¬ z = z2 → False)) [1] v m1 → G z m1) : wX11_tuned f G [0] v m := by
  obtain ⟨A, S, N, V, I, T, n, fk, fa, P, C, R⟩ := H
  refine pX11_tuned (by omega) P.1 C.2.1.1 C.2.1.2 C.2.2.2.2.2 C.2.2.1 hv (fun c => hG _ _ ?_) (fun a ea ha m1 s g hu hs => hG _ _ ?_)
  · exact pX12_tuned (by omega) P.1 R.1 hv (fun _ => q2 rfl (by decide) (hX _ (inv_q P C kC_rZ (RI_rZ R)))) (fun a ea ha => absurd ⟨by omega, by omega⟩ c)
  · have C1 := CI_gs C g
    have R1 := RI_k R (kR_gs g)
    refine pX12_tuned (by omega) P.1 R1.1 hv (fun c => absurd ⟨by omega, by omega⟩ c) (fun a' ea' ha' m2 s2 st hu2 hs2 => ?_)
    have e : a' = a := by omega
    subst e
    have := zTu_u _ _ _ hu hu2
    subst this
    unfold zTok at hs
    refine q2 rfl ?_ (hX _ (inv_q P C1 (kC_st st) (RI_st R1 st)))
    unfold zTd
    split
    · decide
    · exact ⟨by omega, by omega⟩
theorem zJu_u {A U : Nat → Int} {n : Nat} {w z z' : Int} (hA : wA A) (hn : n ≤ 40) (hw : 0 ≤ w ∧ w ≤ 3) (h : zJu A U n w z) (h' : zJu A U n w z') : z = z' ∧ rI z := by
  obtain ⟨a0, a1, a2, a3⟩ := h
  obtain ⟨b0, b1, b2, b3⟩ := h'
  have : w = 0 ∨ w = 1 ∨ w = 2 ∨ w = 3 := by omega
  rcases this with e | e | e | e
  · refine ⟨(a0 e).trans (b0 e).symm, ?_⟩
    rw [a0 e]
    split
    · exact ⟨by omega, by omega⟩
    · decide
  · refine ⟨(a1 e).trans (b1 e).symm, ?_⟩
    rw [a1 e]
    split
    · exact zWhy_r
    · decide
  · obtain ⟨g1, g2, g3⟩ := a2 e
    exact ⟨zGp_u g1 (b2 e).1, ⟨by omega, by omega⟩⟩
  · refine ⟨(a3 e).trans (b3 e).symm, ?_⟩
    rw [a3 e]
    have hl := zLk_len (zPf_b (U := U) n 0 A hA).2.2.1
    exact ⟨by omega, by omega⟩
theorem cl_judge (hf : 10000 ≤ f) (H : gInv m) (hX : ∀ m', gInv m' → X m') {v w : Int} (hv : rI v) (hw : rI w) (G : Int → aj_M → Prop) (hG : ∀ z m1, wX12_judge f (fun z2 m2 => rI z ∧ rI z2 ∧ (z = z2 → X m2) ∧ (¬ z = z2 → False)) [1] v w m1 → G z m1) : wX11_judge f G [0] v w m := by
  obtain ⟨A, S, N, V, I, T, n, fk, fa, P, C, R⟩ := H
  refine pX11_judge (by omega) P.1 C.2.1.1 C.2.1.2 C.2.2.2.2.2 C.2.2.1 P.2.2.2.1 C.1.2.2.1 hv hw (fun c => hG _ _ ?_) (fun t et ht hn w0 w3 m1 z g hz => hG _ _ ?_)
  · refine pX12_judge (by omega) P.1 R.1 P.2.2.2.1 R.2.2.1 hv hw (fun _ => q2 rfl ?_ (hX _ (inv_q P C kC_rZ (RI_rZ R)))) (fun t et ht hn w0 w3 => ?_)
    · unfold zJa
      split
      · exact tA_r
      · decide
    · exfalso
      apply c
      unfold zJa
      rw [if_pos ⟨w0, w3⟩, tA, if_pos ⟨by omega, by omega⟩, et, Int.toNat_natCast, if_pos hn]
  · have C1 := CI_gs C g
    have R1 := RI_k R (kR_gs g)
    refine pX12_judge (by omega) P.1 R1.1 P.2.2.2.1 R1.2.2.1 hv hw (fun c => ?_) (fun t' et' ht' hn' w0' w3' m2 z2 st hz2 => ?_)
    · exfalso
      apply c
      unfold zJa
      rw [if_pos ⟨w0, w3⟩, tA, if_pos ⟨by omega, by omega⟩, et, Int.toNat_natCast, if_pos hn]
    · have e : t' = t := by omega
      subst e
      have hb := tO_b P.2.2.2.1 ht
      obtain ⟨e1, e2⟩ := zJu_u P.1 (by omega) ⟨w0, w3⟩ hz hz2
      exact q2 e1 e2 (hX _ (inv_q P C1 (kC_st st) (RI_st R1 st)))
theorem zLow_r {x : Int} {n : Nat} {w : Int} (hx : 0 ≤ x ∧ x ≤ 24000) : rI (zLow x n w) := by
  have hT := zTen_b (n := n)
  have hg : 1 ≤ Nat.gcd x.toNat (zTen n) := Nat.gcd_pos_of_pos_right _ (by omega)
  unfold zLow
  split
  · have h1 := Int.ediv_nonneg (a := x) (b := ((Nat.gcd x.toNat (zTen n) : Nat) : Int)) hx.1 (by omega)
    have h2 := Int.ediv_le_self (a := x) ((Nat.gcd x.toNat (zTen n) : Nat) : Int) hx.1
    exact ⟨by omega, by omega⟩
  · have h1 := Int.ediv_nonneg (a := (zTen n : Int)) (b := ((Nat.gcd x.toNat (zTen n) : Nat) : Int)) (by omega) (by omega)
    have h2 := Int.ediv_le_self (a := (zTen n : Int)) ((Nat.gcd x.toNat (zTen n) : Nat) : Int) (by omega)
    exact ⟨by omega, by omega⟩
theorem zCc_r {k n w : Int} : rI (zCc k n w) := by
  unfold zCc
  split
  · split <;> decide
  · decide
theorem cl_chance (hf : 10000 ≤ f) (H : gInv m) (hX : ∀ m', gInv m' → X m') {k v w : Int} (hk : rI k) (hv : rI v) (hw : rI w) (G : Int → aj_M → Prop) (hG : ∀ z m1, wX12_chance f (fun z2 m2 => rI z ∧ rI z2 ∧ (z = z2 → X m2) ∧ (¬ z = z2 → False)) [1] k v w m1 → G z m1) : wX11_chance f G [0] k v w m := by
  obtain ⟨A, S, N, V, I, T, n, fk, fa, P, C, R⟩ := H
  refine pX11_chance (by omega) P.1 C.2.1.1 C.2.1.2 C.2.2.2.2.2 C.2.2.1 hk hv hw (fun c => hG _ _ ?_) (fun k1 n1 w1 m1 g b1 b2 => hG _ _ ?_)
  · have no : ¬ ((1 ≤ k ∧ k ≤ 60) ∧ (0 ≤ v ∧ v ≤ 2) ∧ (0 ≤ w ∧ w ≤ 1)) := fun x => c (by unfold zCc; rw [if_pos x.2.2, if_pos ⟨x.1, x.2.1⟩])
    exact pX12_chance (by omega) P.1 R.1 hk hv hw (fun _ => q2 rfl zCc_r (hX _ (inv_q P C kC_rZ (RI_rZ R)))) (fun a b d => absurd ⟨a, b, d⟩ no) (fun a b d => absurd ⟨a, b, d⟩ no)
  · have R1 := RI_k R (kR_gs g)
    exact pX12_chance (by omega) P.1 R1.1 hk hv hw (fun c => absurd (by unfold zCc; rw [if_pos w1, if_pos ⟨k1, n1⟩]) c) (fun _ _ _ => ⟨b1, b2⟩) (fun _ _ _ m2 st => q2 rfl (zLow_r ⟨b1, b2⟩) (hX _ (inv_q P (CI_gs C g) (kC_st st) (RI_st R1 st))))
theorem cl_mean (hf : 10000 ≤ f) (H : gInv m) (hX : ∀ m', gInv m' → X m') {v w : Int} (hv : rI v) (hw : rI w) (G : Int → aj_M → Prop) (hG : ∀ z m1, wX12_mean f (fun z2 m2 => rI z ∧ rI z2 ∧ (z = z2 → X m2) ∧ (¬ z = z2 → False)) [1] v w m1 → G z m1) : wX11_mean f G [0] v w m := by
  obtain ⟨A, S, N, V, I, T, n, fk, fa, P, C, R⟩ := H
  refine pX11_mean (by omega) P.1 C.2.1.1 C.2.1.2 C.2.2.2.2.2 C.2.2.1 hv hw (fun c => hG _ _ ?_) (fun n1 w1 m1 g b1 b2 => hG _ _ ?_)
  · have no : ¬ ((0 ≤ v ∧ v ≤ 2) ∧ (0 ≤ w ∧ w ≤ 1)) := fun x => c (by unfold zCc; rw [if_pos x.2, if_pos ⟨by decide, x.1⟩])
    exact pX12_mean (by omega) P.1 R.1 hv hw (fun _ => q2 rfl zCc_r (hX _ (inv_q P C kC_rZ (RI_rZ R)))) (fun b d => absurd ⟨b, d⟩ no) (fun b d => absurd ⟨b, d⟩ no)
  · have R1 := RI_k R (kR_gs g)
    exact pX12_mean (by omega) P.1 R1.1 hv hw (fun c => absurd (by unfold zCc; rw [if_pos w1, if_pos ⟨by decide, n1⟩]) c) (fun _ _ => ⟨b1, b2⟩) (fun _ _ m2 st => q2 rfl (zLow_r ⟨b1, b2⟩) (hX _ (inv_q P (CI_gs C g) (kC_st st) (RI_st R1 st))))
end CLS
