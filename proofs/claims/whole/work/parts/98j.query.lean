/-! QUERIES ON THE NETWORK: answers -/
theorem zcnt_ml {P Q : Nat → Bool} : ∀ (k v : Nat), (∀ u, u < k → P u = true → Q u = true) → v < k → P v = false → Q v = true → zcnt P k < zcnt Q k
  | 0, v, _, h, _, _ => absurd h (by omega)
  | k + 1, v, hs, hv, h1, h2 => by
    have mono : ∀ j, j ≤ k → zcnt P j ≤ zcnt Q j := by
      intro j
      induction j with
      | zero => intro _; exact Nat.le_refl _
      | succ j ih =>
        intro hj
        have := ih (by omega)
        unfold zcnt
        by_cases c : P j = true
        · rw [if_pos c, if_pos (hs j (by omega) c)]
          omega
        · rw [if_neg c]
          omega
    unfold zcnt
    by_cases e : v = k
    · subst e
      rw [h1, h2]
      have := mono v (Nat.le_refl _)
      simp only [if_true]
      show zcnt P v + 0 < zcnt Q v + 1
      omega
    · have := zcnt_ml k v (fun u hu => hs u (by omega)) (by omega) h1 h2
      by_cases c : P k = true
      · rw [if_pos c, if_pos (hs k (by omega) c)]
        omega
      · rw [if_neg c]
        omega
theorem zBC_k {N L : Nat} {a b : Nat → Nat} {bar : Nat → Bool} {c : Nat → Nat → Int} {r : Nat} {d vi lb : Nat → Int} (H : zBC N bar (zJ N L a b) c r d vi lb) : ∀ (k v : Nat), v < N → d v = k → k + 1 ≤ zcnt (fun u => decide (0 ≤ d u ∧ d u ≤ k)) N
  | 0, v, hv, e => by
    have := zcnt_ml (P := fun _ => false) (Q := fun u => decide (0 ≤ d u ∧ d u ≤ ((0 : Nat) : Int))) N v (fun u _ x => absurd x (by decide)) hv rfl (decide_eq_true (by omega))
    omega
  | k + 1, v, hv, e => by
    have hvr : v ≠ r := fun x => by
      have := H.1.2.1
      rw [x] at e
      omega
    obtain ⟨_, l, u, hj, _, h0, h1, _⟩ := H.2.2.1 v hv hvr (by omega)
    have := zBC_k H k u hj.2.1 (by omega)
    have h2 := zcnt_ml (P := fun u => decide (0 ≤ d u ∧ d u ≤ (k : Int))) (Q := fun u => decide (0 ≤ d u ∧ d u ≤ ((k + 1 : Nat) : Int))) N v (fun u _ x => decide_eq_true (by have := of_decide_eq_true x; omega)) hv (decide_eq_false (by omega)) (decide_eq_true (by omega))
    omega
theorem zBC_b {N L : Nat} {a b : Nat → Nat} {bar : Nat → Bool} {c : Nat → Nat → Int} {r : Nat} {d vi lb : Nat → Int} (H : zBC N bar (zJ N L a b) c r d vi lb) {v : Nat} (hv : v < N) : -1 ≤ d v ∧ d v < N := by
  rcases H.2.1 v hv with e | e
  · omega
  · have := zBC_k H (d v).toNat v hv (by omega)
    have := zcnt_le (P := fun u => decide (0 ≤ d u ∧ d u ≤ (((d v).toNat : Nat) : Int))) N
    omega
theorem zMx_b {N L : Nat} {a b : Nat → Nat} : ∀ {n : Nat} {z : Int}, zMx N L a b n z → n ≤ N → 0 ≤ z ∧ z ≤ N
  | 0, z, h, _ => by
    have : z = 0 := h
    omega
  | n + 1, z, ⟨z', e, h1, ⟨c, d, vi, lb, h2, ⟨v, hv, h3⟩, h4⟩, h5⟩, hn => by
    have := zMx_b h1 (by omega)
    have := zBC_b h2 hv
    omega
theorem zThr_v {N L : Nat} {a b : Nat → Nat} {r : Nat} {inf inf' z z' : Int} (hN : N ≤ 60) (h : zThr N L a b r inf z) (h' : zThr N L a b r inf' z') : (z = inf ∧ z' = inf') ∨ (z = z' ∧ 0 ≤ z ∧ z ≤ 120) := by
  rcases h with ⟨h1, h2⟩ | ⟨k, h1, h2, h3, h4⟩
  · rcases h' with ⟨g1, g2⟩ | ⟨k', g1, g2, g3, g4⟩
    · exact Or.inl ⟨h1, g1⟩
    · exact absurd g3 (h2 k')
  · rcases h' with ⟨g1, g2⟩ | ⟨k', g1, g2, g3, g4⟩
    · exact absurd h3 (g2 k)
    · have := h4 k' g3
      have := g4 k h3
      exact Or.inr ⟨by omega, by omega, by omega⟩
section QRY
variable {f : Nat} {m : aj_M} {X : aj_M → Prop}
theorem cl_joins (hf : 10000 ≤ f) (H : gInv m) (hX : ∀ m', gInv m' → X m') {v w : Int} (hv : rI v) (hw : rI w) (G : Int → aj_M → Prop) (hG : ∀ z m1, wX12_joins f (fun z2 m2 => rI z ∧ rI z2 ∧ (z = z2 → X m2) ∧ (¬ z = z2 → False)) [1] v w m1 → G z m1) : wX11_joins f G [0] v w m := by
  obtain ⟨A, S, N, V, I, T, n, fk, fa, P, C, R⟩ := H
  have hNb := zNn_b P.1
  refine pCur hf P C (fun m1 C1 k1 cu => ?_)
  have R1 := RI_k R k1
  obtain ⟨s, e, hc⟩ := cu.2.2.2.1
  have bad : ¬ ((0 ≤ v ∧ v < zNn A) ∧ (0 ≤ w ∧ w < zNn A)) → G (-2) m1 := fun c => hG _ _ (by
    rintro _ rfl
    refine ⟨hv, pIsNode P (row_0 R1) hv (fun a b => zb1 ⟨hw, pIsNode P (row_0 R1) hw (fun x y => absurd ⟨⟨a, b⟩, ⟨x, y⟩⟩ c) (fun _ => zc0 (q2 rfl (by decide) (hX _ (rn_inv P C1 R1 rNk_0))))⟩) (fun _ => zb0 (q2 rfl (by decide) (hX _ (rn_inv P C1 R1 rNk_0))))⟩)
  refine pX5_has hv hc.1 ⟨by omega, by omega⟩ (fun a1 a2 => zb1 (pX5_has hw hc.1 ⟨by omega, by omega⟩ (fun b1 b2 => zc1 ?_) (fun b => zc0 (bad (fun x => b x.2))))) (fun a => zb0 (bad (fun x => a x.1)))
  obtain ⟨v, rfl⟩ : ∃ v' : Nat, v = v' := ⟨v.toNat, by omega⟩
  obtain ⟨w, rfl⟩ : ∃ v' : Nat, w = v' := ⟨w.toNat, by omega⟩
  refine pX5_linksBetween hc (by omega) (by omega) (by omega) (hG _ _ ?_)
  rintro _ rfl
  refine ⟨hv, pIsNode P (row_0 R1) hv (fun _ _ => zb1 ⟨hw, pIsNode P (row_0 R1) hw (fun _ _ => zc1 ?_) (fun x => absurd ⟨b1, b2⟩ x)⟩) (fun x => absurd ⟨a1, a2⟩ x)⟩
  refine pNetR hf P R1 rNk_0 (fun m2 k2 n1 n2 n3 => ⟨⟨by omega, by omega⟩, ?_⟩)
  rw [show (60 * (v : Int) + (w : Int)).toNat = 60 * v + w by omega, n3 v w (by omega) (by omega)]
  have hL := zLk_len P.1
  have := zjn_le (L := (zLk A).length) (a := zFa A) (b := zFb A) (u := v) (v := w)
  exact q2 rfl ⟨by omega, by omega⟩ (hX _ (rn_inv P C1 R1 k2))
theorem cl_degree (hf : 10000 ≤ f) (H : gInv m) (hX : ∀ m', gInv m' → X m') {v : Int} (hv : rI v) (G : Int → aj_M → Prop) (hG : ∀ z m1, wX12_degree f (fun z2 m2 => rI z ∧ rI z2 ∧ (z = z2 → X m2) ∧ (¬ z = z2 → False)) [1] v m1 → G z m1) : wX11_degree f G [0] v m := by
  obtain ⟨A, S, N, V, I, T, n, fk, fa, P, C, R⟩ := H
  have hNb := zNn_b P.1
  refine pCur hf P C (fun m1 C1 k1 cu => ?_)
  have R1 := RI_k R k1
  obtain ⟨s, e, hc⟩ := cu.2.2.2.1
  refine pX5_has hv hc.1 ⟨by omega, by omega⟩ (fun a1 a2 => zb1 ?_) (fun a => zb0 (hG _ _ ?_))
  · obtain ⟨v, rfl⟩ : ∃ v' : Nat, v = v' := ⟨v.toNat, by omega⟩
    refine pX5_endsAt hc (by omega) (hG _ _ ?_)
    rintro _ rfl
    refine ⟨hv, pIsNode P (row_0 R1) hv (fun _ _ => zc1 ?_) (fun x => absurd ⟨a1, a2⟩ x)⟩
    refine pNetR hf P R1 rNk_0 (fun m2 k2 n1 n2 n3 => pX12_degreeOf n1 (by omega) (by omega) ?_)
    have hL := zLk_len P.1
    have := zdeg_le (L := (zLk A).length) (a := zFa A) (b := zFb A) (n := v)
    exact q2 rfl ⟨by omega, by omega⟩ (hX _ (rn_inv P C1 R1 k2))
  · rintro _ rfl
    exact ⟨hv, pIsNode P (row_0 R1) hv (fun x y => absurd ⟨x, y⟩ a) (fun _ => zc0 (q2 rfl (by decide) (hX _ (rn_inv P C1 R1 rNk_0))))⟩
theorem cl_neighbour (hf : 10000 ≤ f) (H : gInv m) (hX : ∀ m', gInv m' → X m') {v i : Int} (hv : rI v) (hi : rI i) (G : Int → aj_M → Prop) (hG : ∀ z m1, wX12_neighbour f (fun z2 m2 => rI z ∧ rI z2 ∧ (z = z2 → X m2) ∧ (¬ z = z2 → False)) [1] v i m1 → G z m1) : wX11_neighbour f G [0] v i m := by
  obtain ⟨A, S, N, V, I, T, n, fk, fa, P, C, R⟩ := H
  have hNb := zNn_b P.1
  refine pCur hf P C (fun m1 C1 k1 cu => ?_)
  have R1 := RI_k R k1
  obtain ⟨s, e, hc⟩ := cu.2.2.2.1
  refine pX5_has hv hc.1 ⟨by omega, by omega⟩ (fun a1 a2 => zc1 ⟨hi, fun c => ?_, fun c => hG _ _ ?_⟩) (fun a => zc0 (hG _ _ ?_))
  · obtain ⟨v, rfl⟩ : ∃ v' : Nat, v = v' := ⟨v.toNat, by omega⟩
    refine pX5_neighbourAt hc (by omega) c hi (by omega) (fun z m2 hz zn => hG _ _ ?_)
    obtain ⟨C2, k2⟩ := cq C1 cu zn
    have R2 := RI_k R1 k2
    rintro _ rfl
    refine ⟨hv, pIsNode P (row_0 R2) hv (fun _ _ => zc1 ⟨hi, fun _ => ?_, fun x => absurd c x⟩) (fun x => absurd ⟨a1, a2⟩ x)⟩
    refine pNetR hf P R2 rNk_0 (fun m3 k3 n1 n2 n3 => pX12_neighbour0 n1 n3 (by omega) c hi (by omega) (fun z' hz' => ?_))
    refine q2 (zNb_u (fun _ _ => rfl) hz hz') ?_ (hX _ (rn_inv P C2 R2 k3))
    rcases hz with ⟨u, u1, _, _, u4⟩ | ⟨u1, _⟩
    · exact ⟨by omega, by omega⟩
    · rw [u1]; decide
  · rintro _ rfl
    exact ⟨hv, pIsNode P (row_0 R1) hv (fun _ _ => zc1 ⟨hi, fun x => absurd x c, fun _ => q2 rfl (by decide) (hX _ (rn_inv P C1 R1 rNk_0))⟩) (fun x => absurd ⟨a1, a2⟩ x)⟩
  · rintro _ rfl
    exact ⟨hv, pIsNode P (row_0 R1) hv (fun x y => absurd ⟨x, y⟩ a) (fun _ => zc0 (q2 rfl (by decide) (hX _ (rn_inv P C1 R1 rNk_0))))⟩
theorem zReg_bd {N L : Nat} {a b : Nat → Nat} {z : Int} (hL : L ≤ 144) (h : zReg N L a b z) : -1 ≤ z ∧ z ≤ 288 := by
  have := zdeg_le (L := L) (a := a) (b := b) (n := 0)
  rcases h with h | h
  · omega
  · omega
theorem cl_regular (hf : 10000 ≤ f) (H : gInv m) (hX : ∀ m', gInv m' → X m') (G : Int → aj_M → Prop) (hG : ∀ z m1, wX12_regular f (fun z2 m2 => rI z ∧ rI z2 ∧ (z = z2 → X m2) ∧ (¬ z = z2 → False)) [1] m1 → G z m1) : wX11_regular f G [0] m := by
  obtain ⟨A, S, N, V, I, T, n, fk, fa, P, C, R⟩ := H
  refine pCur hf P C (fun m1 C1 k1 cu => ?_)
  have R1 := RI_k R k1
  obtain ⟨s, e, hc⟩ := cu.2.2.2.1
  refine pX5_commonDegree hc (by omega) (fun z hz => hG _ _ ?_)
  rintro _ rfl
  refine pNetR hf P R1 rNk_0 (fun m2 k2 n1 n2 n3 => pX12_regularNow n1 (by omega) (fun z' hz' => ?_))
  have := zReg_bd (zLk_len P.1) hz
  exact q2 (zReg_u hz hz') ⟨by omega, by omega⟩ (hX _ (rn_inv P C1 R1 k2))
theorem cl_parts (hf : 10000 ≤ f) (H : gInv m) (hX : ∀ m', gInv m' → X m') (G : Int → aj_M → Prop) (hG : ∀ z m1, wX12_parts f (fun z2 m2 => rI z ∧ rI z2 ∧ (z = z2 → X m2) ∧ (¬ z = z2 → False)) [1] m1 → G z m1) : wX11_parts f G [0] m := by
  obtain ⟨A, S, N, V, I, T, n, fk, fa, P, C, R⟩ := H
  have hNb := zNn_b P.1
  refine pCur hf P C (fun m1 C1 k1 cu => ?_)
  have R1 := RI_k R k1
  obtain ⟨s, e, hc⟩ := cu.2.2.2.1
  refine pX5_countParts hc cu.2.1 cu.2.2.1 (by omega) (fun z m2 hz zn => hG _ _ ?_)
  obtain ⟨C2, k2⟩ := cq C1 cu zn
  have R2 := RI_k R1 k2
  rintro _ rfl
  refine pNetR hf P R2 rNk_0 (fun m3 k3 n1 n2 n3 => pX12_parts0 n1 (by omega) (fun z' m4 hz' z4 => ?_))
  refine q2 (zPt_u hz hz') ?_ (hX _ (rn_inv P C2 R2 (rNk_t k3 z4 (by decide) (by decide))))
  obtain ⟨Q, _, h2⟩ := hz
  have := zcnt_le (P := Q) (zNn A)
  exact ⟨by omega, by omega⟩
theorem cl_twoColours (hf : 10000 ≤ f) (H : gInv m) (hX : ∀ m', gInv m' → X m') (G : Int → aj_M → Prop) (hG : ∀ z m1, wX12_twoColours f (fun z2 m2 => rI z ∧ rI z2 ∧ (z = z2 → X m2) ∧ (¬ z = z2 → False)) [1] m1 → G z m1) : wX11_twoColours f G [0] m := by
  obtain ⟨A, S, N, V, I, T, n, fk, fa, P, C, R⟩ := H
  refine pCur hf P C (fun m1 C1 k1 cu => ?_)
  have R1 := RI_k R k1
  obtain ⟨s, e, hc⟩ := cu.2.2.2.1
  refine pX5_isTwoColoured hc cu.2.1 cu.2.2.1 (by omega) (fun z m2 hz zn => ?_)
  obtain ⟨C2, k2⟩ := cq C1 cu zn
  have R2 := RI_k R1 k2
  have go : ∀ y : Int, y = z → G y m2 := fun y hy => hG _ _ (by
    rintro _ rfl
    refine pNetR hf P R2 rNk_0 (fun m3 k3 n1 n2 n3 => pX12_twoColours0 n1 (by omega) (fun z' m4 hz' z4 => ?_))
    have e2 := zTwo_u hz hz'
    refine q2 (by omega) ?_ (hX _ (rn_inv P C2 R2 (rNk_t k3 z4 (by decide) (by decide))))
    rcases hz with h | h
    · rw [hy, h.1]; decide
    · rw [hy, h.1]; decide)
  have h01 : z = 0 ∨ z = 1 := by
    rcases hz with h | h
    · exact Or.inl h.1
    · exact Or.inr h.1
  exact ⟨⟨by omega, by omega⟩, fun x => go 0 x.symm, fun x => go 1 (by omega)⟩
theorem cl_far (hf : 10000 ≤ f) (H : gInv m) (hX : ∀ m', gInv m' → X m') {v w : Int} (hv : rI v) (hw : rI w) (G : Int → aj_M → Prop) (hG : ∀ z m1, wX12_far f (fun z2 m2 => rI z ∧ rI z2 ∧ (z = z2 → X m2) ∧ (¬ z = z2 → False)) [1] v w m1 → G z m1) : wX11_far f G [0] v w m := by
  obtain ⟨A, S, N, V, I, T, n, fk, fa, P, C, R⟩ := H
  have hNb := zNn_b P.1
  refine pCur hf P C (fun m1 C1 k1 cu => ?_)
  have R1 := RI_k R k1
  obtain ⟨s, e, hc⟩ := cu.2.2.2.1
  have bad : ¬ ((0 ≤ v ∧ v < zNn A) ∧ (0 ≤ w ∧ w < zNn A)) → G (-2) m1 := fun c => hG _ _ (by
    rintro _ rfl
    refine ⟨hv, pIsNode P (row_0 R1) hv (fun a b => zb1 ⟨hw, pIsNode P (row_0 R1) hw (fun x y => absurd ⟨⟨a, b⟩, ⟨x, y⟩⟩ c) (fun _ => zc0 (q2 rfl (by decide) (hX _ (rn_inv P C1 R1 rNk_0))))⟩) (fun _ => zb0 (q2 rfl (by decide) (hX _ (rn_inv P C1 R1 rNk_0))))⟩)
  refine pX5_has hv hc.1 ⟨by omega, by omega⟩ (fun a1 a2 => zb1 (pX5_has hw hc.1 ⟨by omega, by omega⟩ (fun b1 b2 => zc1 ?_) (fun b => zc0 (bad (fun x => b x.2))))) (fun a => zb0 (bad (fun x => a x.1)))
  obtain ⟨v, rfl⟩ : ∃ v' : Nat, v = v' := ⟨v.toNat, by omega⟩
  obtain ⟨w, rfl⟩ : ∃ v' : Nat, w = v' := ⟨w.toNat, by omega⟩
  have h16 : m1 [3, 8, 0] 16 = ((0 : Nat) : Int) := cu.2.1
  refine pX5_spread hc h16 (by decide) (by omega) (by omega) cu.2.2.1 (fun t d vi br qu x HB HC hq hr => ⟨⟨by omega, by omega⟩, ?_⟩)
  have ed : nB m1 [3, 8, 0] d vi br qu [10, 3, 8, 0] = d := by
    funext k
    simp [nB, aj_ur]
  rw [ed, Int.toNat_natCast]
  have z0 : (0 : Nat).testBit = fun _ => false := by funext k; exact Nat.zero_testBit k
  rw [z0] at HC
  have hd := zBC_b HC (v := w) (by omega)
  obtain ⟨C2, k2⟩ := cq C1 cu (zN_nB hr)
  have R2 := RI_k R1 k2
  refine hG _ _ ?_
  rintro _ rfl
  refine ⟨hv, pIsNode P (row_0 R2) hv (fun _ _ => zb1 ⟨hw, pIsNode P (row_0 R2) hw (fun _ _ => zc1 ?_) (fun x => absurd ⟨b1, b2⟩ x)⟩) (fun x => absurd ⟨a1, a2⟩ x)⟩
  refine pNetR hf P R2 rNk_0 (fun m3 k3 n1 n2 n3 => pX12_laysFar n1 (by omega) (by omega) (fun t' d' vi' F br' qu' x' HB' HC' hq' hF => ⟨⟨by omega, by omega⟩, ?_⟩))
  have ed' := zBC_eq HC HC' (v := w) (by omega)
  have eF : rB m3 [1] F br' qu' [24, 1] = F := by
    funext k
    simp [rB, aj_ur]
  rw [eF, Int.toNat_natCast, hF w (by omega), ed']
  have kk : rNk (nB m1 [3, 8, 0] d vi br qu) (rB m3 [1] F br' qu') := rNk_t k3 zo_rB (by decide) (by decide)
  have fin := hX _ (rn_inv P C2 R2 kk)
  by_cases c : d w < 0
  · rw [if_pos c]
    exact pX12_toldFar (by decide) (fun x => absurd x (by decide)) (fun _ => q2 (by omega) ⟨by omega, by omega⟩ fin)
  · rw [if_neg c]
    exact pX12_toldFar ⟨by omega, by omega⟩ (fun _ => q2 rfl ⟨by omega, by omega⟩ fin) (fun x => by omega)
theorem cl_diameter (hf : 10000 ≤ f) (H : gInv m) (hX : ∀ m', gInv m' → X m') (G : Int → aj_M → Prop) (hG : ∀ z m1, wX12_diameter f (fun z2 m2 => rI z ∧ rI z2 ∧ (z = z2 → X m2) ∧ (¬ z = z2 → False)) [1] m1 → G z m1) : wX11_diameter f G [0] m := by
  obtain ⟨A, S, N, V, I, T, n, fk, fa, P, C, R⟩ := H
  have hNb := zNn_b P.1
  refine pCur hf P C (fun m1 C1 k1 cu => ?_)
  have R1 := RI_k R k1
  obtain ⟨s, e, hc⟩ := cu.2.2.2.1
  refine pX5_widest hc cu.2.1 cu.2.2.1 (by omega) (fun z m2 hz zn => hG _ _ ?_)
  obtain ⟨C2, k2⟩ := cq C1 cu zn
  have R2 := RI_k R1 k2
  rintro _ rfl
  refine pNetR hf P R2 rNk_0 (fun m3 k3 n1 n2 n3 => pX12_diameter0 n1 (by omega) (fun z' m4 hz' z4 => ?_))
  refine q2 (zDi_u hz hz') ?_ (hX _ (rn_inv P C2 R2 (rNk_t k3 z4 (by decide) (by decide))))
  rcases hz with h | h
  · rw [h.1]; decide
  · have := zMx_b h.1 (Nat.le_refl _)
    exact ⟨by omega, by omega⟩
theorem cl_ball (hf : 10000 ≤ f) (H : gInv m) (hX : ∀ m', gInv m' → X m') {v r : Int} (hv : rI v) (hr : rI r) (G : Int → aj_M → Prop) (hG : ∀ z m1, wX12_ball f (fun z2 m2 => rI z ∧ rI z2 ∧ (z = z2 → X m2) ∧ (¬ z = z2 → False)) [1] v r m1 → G z m1) : wX11_ball f G [0] v r m := by
  obtain ⟨A, S, N, V, I, T, n, fk, fa, P, C, R⟩ := H
  have hNb := zNn_b P.1
  refine pCur hf P C (fun m1 C1 k1 cu => ?_)
  have R1 := RI_k R k1
  obtain ⟨s, e, hc⟩ := cu.2.2.2.1
  have bad : (0 ≤ v ∧ v < zNn A) → ¬ (0 ≤ r ∧ r ≤ 99) → G (-3) m1 := fun a c => hG _ _ (by
    rintro _ rfl
    exact ⟨hv, pIsNode P (row_0 R1) hv (fun _ _ => zc1 ⟨hr, pW12_within (rL_rI hr) (by decide) (by decide) (fun x y => absurd ⟨x, y⟩ c) (fun _ => zc0 (q2 rfl (by decide) (hX _ (rn_inv P C1 R1 rNk_0))))⟩) (fun x => absurd a x)⟩)
  refine pX5_has hv hc.1 ⟨by omega, by omega⟩ (fun a1 a2 => zc1 ⟨hr, fun c => bad ⟨a1, a2⟩ (by omega), fun c => ⟨hr, fun d => ?_, fun d => bad ⟨a1, a2⟩ (by omega)⟩⟩) (fun a => zc0 (hG _ _ ?_))
  · obtain ⟨v, rfl⟩ : ∃ v' : Nat, v = v' := ⟨v.toNat, by omega⟩
    refine pX5_within hc cu.2.1 cu.2.2.1 (by omega) (by omega) ⟨by omega, d⟩ (fun z m2 hz zn => hG _ _ ?_)
    obtain ⟨C2, k2⟩ := cq C1 cu zn
    have R2 := RI_k R1 k2
    rintro _ rfl
    refine ⟨hv, pIsNode P (row_0 R2) hv (fun _ _ => zc1 ⟨hr, pW12_within (rL_rI hr) (by decide) (by decide) (fun _ _ => zc1 ?_) (fun x => absurd ⟨by omega, d⟩ x)⟩) (fun x => absurd ⟨a1, a2⟩ x)⟩
    refine pNetR hf P R2 rNk_0 (fun m3 k3 n1 n2 n3 => pX12_ball0 n1 (by omega) (by omega) ⟨by omega, d⟩ (fun z' m4 hz' z4 => ?_))
    refine q2 (zBl_u hz hz') ?_ (hX _ (rn_inv P C2 R2 (rNk_t k3 z4 (by decide) (by decide))))
    obtain ⟨c', d', vi', lb', _, h2⟩ := hz
    have := zcnt_le (P := fun v => decide (0 ≤ d' v ∧ d' v ≤ r)) (zNn A)
    exact ⟨by omega, by omega⟩
  · rintro _ rfl
    exact ⟨hv, pIsNode P (row_0 R1) hv (fun x y => absurd ⟨x, y⟩ a) (fun _ => zc0 (q2 rfl (by decide) (hX _ (rn_inv P C1 R1 rNk_0))))⟩
theorem cl_girth (hf : 10000 ≤ f) (H : gInv m) (hX : ∀ m', gInv m' → X m') (G : Int → aj_M → Prop) (hG : ∀ z m1, wX12_girth f (fun z2 m2 => rI z ∧ rI z2 ∧ (z = z2 → X m2) ∧ (¬ z = z2 → False)) [1] m1 → G z m1) : wX11_girth f G [0] m := by
  obtain ⟨A, S, N, V, I, T, n, fk, fa, P, C, R⟩ := H
  have hNb := (zNn_b P.1).2.2
  refine pCur hf P C (fun m1 C1 k1 cu => ?_)
  have R1 := RI_k R k1
  obtain ⟨s, e, hc⟩ := cu.2.2.2.1
  refine pX5_shortestRing hc (by omega) cu.2.2.1 (fun z d vi qu hr gi => pOrNone gi hNb (fun w w1 w2 w3 => hG _ _ ?_))
  obtain ⟨C2, k2⟩ := cq C1 cu (zN_nB hr)
  have R2 := RI_k R1 k2
  rintro _ rfl
  refine pNetR hf P R2 rNk_0 (fun m3 k3 n1 n2 n3 => pX12_girthNow n1 (by omega) (fun z' d' br' qu' gi' => pToldFar gi' hNb (fun w' w1' _ _ => ?_)))
  exact q2 (zGp_u w1 w1') ⟨by omega, by omega⟩ (hX _ (rn_inv P C2 R2 (rNk_t k3 zo_rB (by decide) (by decide))))
theorem cl_through (hf : 10000 ≤ f) (H : gInv m) (hX : ∀ m', gInv m' → X m') {v : Int} (hv : rI v) (G : Int → aj_M → Prop) (hG : ∀ z m1, wX12_through f (fun z2 m2 => rI z ∧ rI z2 ∧ (z = z2 → X m2) ∧ (¬ z = z2 → False)) [1] v m1 → G z m1) : wX11_through f G [0] v m := by
  obtain ⟨A, S, N, V, I, T, n, fk, fa, P, C, R⟩ := H
  have hNb := zNn_b P.1
  refine pCur hf P C (fun m1 C1 k1 cu => ?_)
  have R1 := RI_k R k1
  obtain ⟨s, e, hc⟩ := cu.2.2.2.1
  refine pX5_has hv hc.1 ⟨by omega, by omega⟩ (fun a1 a2 => zc1 ?_) (fun a => zc0 (hG _ _ ?_))
  · obtain ⟨v, rfl⟩ : ∃ v' : Nat, v = v' := ⟨v.toNat, by omega⟩
    refine pX5_shortestThrough hc cu.2.1 (by omega) (by omega) cu.2.2.1 (fun z d vi br qu hr gi => ?_)
    obtain ⟨C2, k2⟩ := cq C1 cu (zN_nB (d := d) (br := br) (qu := qu) hr)
    have R2 := RI_k R1 k2
    have go : ∀ y : Int, (z = 1000000 ∧ y = -1) ∨ (z < 1000000 ∧ y = z) → G y (nB m1 [3, 8, 0] d vi br qu) := fun y hy => hG _ _ (by
      rintro _ rfl
      refine ⟨hv, pIsNode P (row_0 R2) hv (fun _ _ => zc1 ?_) (fun x => absurd ⟨a1, a2⟩ x)⟩
      refine pNetR hf P R2 rNk_0 (fun m3 k3 n1 n2 n3 => pX12_throughOf n1 (by omega) (by omega) (fun z' d' br' qu' gi' => ?_))
      have fin := hX _ (rn_inv P C2 R2 (rNk_t k3 (zo_rB (q := [1]) (d := d') (br := br') (qu := qu')) (by decide) (by decide)))
      rcases zThr_v hNb.2.2 gi gi' with ⟨x1, x2⟩ | ⟨x1, x2, x3⟩
      · exact pX12_toldFar (by omega) (fun x => by omega) (fun _ => q2 (by omega) ⟨by omega, by omega⟩ fin)
      · exact pX12_toldFar (by omega) (fun x => q2 (by omega) ⟨by omega, by omega⟩ fin) (fun x => by omega))
    have hz : z = 1000000 ∨ (0 ≤ z ∧ z ≤ 120) := by
      rcases gi with h | ⟨k, h1, h2, _⟩
      · exact Or.inl h.1
      · exact Or.inr ⟨by omega, by omega⟩
    exact pX11_orNone ⟨by omega, by omega⟩ (fun c => go z (Or.inr ⟨c, rfl⟩)) (fun c => go (-1) (Or.inl ⟨by omega, rfl⟩))
  · rintro _ rfl
    exact ⟨hv, pIsNode P (row_0 R1) hv (fun x y => absurd ⟨x, y⟩ a) (fun _ => zc0 (q2 rfl (by decide) (hX _ (rn_inv P C1 R1 rNk_0))))⟩
theorem cl_excess (hf : 10000 ≤ f) (H : gInv m) (hX : ∀ m', gInv m' → X m') (G : Int → aj_M → Prop) (hG : ∀ z m1, wX12_excess f (fun z2 m2 => rL z ∧ rL z2 ∧ (z = z2 → X m2) ∧ (¬ z = z2 → False)) [1] m1 → G z m1) : wX11_excess f G [0] m := by
  obtain ⟨A, S, N, V, I, T, n, fk, fa, P, C, R⟩ := H
  have hNb := zNn_b P.1
  refine pCur hf P C (fun m1 C1 k1 cu => ?_)
  have R1 := RI_k R k1
  obtain ⟨s, e, hc⟩ := cu.2.2.2.1
  refine pX5_commonDegree hc (by omega) (fun dg hdg => pX5_shortestRing hc (by omega) cu.2.2.1 (fun z d vi qu hr gi => pOrNone gi hNb.2.2 (fun w w1 w2 w3 => ?_)))
  have hdb := zReg_bd (zLk_len P.1) hdg
  obtain ⟨C2, k2⟩ := cq C1 cu (zN_nB (d := d) (br := m1 [13, 3, 8, 0]) (qu := qu) hr)
  have R2 := RI_k R1 k2
  have go : ∀ y : Int, y = (if 2 ≤ dg ∧ dg ≤ 9 ∧ 3 ≤ w ∧ w ≤ 12 then (zNn A : Int) - zBd dg w else -1) → G y (nB m1 [3, 8, 0] d vi (m1 [13, 3, 8, 0]) qu) := fun y hy => hG _ _ (by
    rintro _ rfl
    refine pNetR hf P R2 rNk_0 (fun m3 k3 n1 n2 n3 => pX12_regularNow n1 (by omega) (fun dg' hdg' => pX12_girthNow n1 (by omega) (fun z' d' br' qu' gi' => ?_)))
    have ed := zReg_u hdg hdg'
    subst ed
    obtain ⟨w', g1, g2⟩ := zGir_v gi' hNb.2.2 (by decide)
    have ew := zGp_u w1 g1
    subst ew
    have fin := hX _ (rn_inv P C2 R2 (rNk_t k3 (zo_rB (q := [1]) (d := d') (br := br') (qu := qu')) (by decide) (by decide)))
    refine pX12_isBound ⟨by omega, by omega⟩ ⟨by omega, by omega⟩ ?_
    by_cases c : 2 ≤ dg ∧ dg ≤ 9 ∧ 3 ≤ w ∧ w ≤ 12
    · have ez : z' = w := by omega
      have hb := zBd_r (d := dg) (g := w) ⟨c.1, c.2.1⟩ c.2.2
      rw [ez, if_pos c]
      rw [if_pos c] at hy
      have e23 : rB m3 [1] d' br' qu' [1] 23 = zNn A := by rw [rB_off (by decide) (by decide) (by decide)]; exact n1.2.1
      refine zb1 ⟨by rw [e23]; exact ⟨by omega, by omega⟩, pX12_boundOf (by omega) ⟨c.1, c.2.1⟩ c.2.2 ?_⟩
      rw [e23]
      exact q2L hy ⟨by omega, by omega⟩ fin
    · rw [if_neg (by omega)]
      rw [if_neg c] at hy
      exact zb0 (q2L hy (by rw [hy]; decide) fin))
  refine pX11_isBounded ⟨by omega, by omega⟩ ⟨by omega, by omega⟩ ?_
  by_cases c : 2 ≤ dg ∧ dg ≤ 9 ∧ 3 ≤ w ∧ w ≤ 12
  · rw [if_pos c]
    have e0 : nB m1 [3, 8, 0] d vi (m1 [13, 3, 8, 0]) qu [3, 8, 0] 0 = zNn A := by rw [nB_r0]; exact hc.1
    refine zb1 ⟨by rw [e0]; exact ⟨by omega, by omega⟩, pX11_treeBound (by omega) ⟨c.1, c.2.1⟩ c.2.2 ?_⟩
    rw [e0]
    exact go _ (by rw [if_pos c])
  · rw [if_neg c]
    exact zb0 (go _ (by rw [if_neg c]))
end QRY
