/-! QUERIES: rings, weights, counts; lists -/
theorem ring_eq {N L : Nat} {a b : Nat → Nat} {len z : Int} {row row' : Nat → Int} (hN : N ≤ 60) (h : zRg N L a b len row) (h' : zRr N L a b z row') : (len = 0 ∧ z = -1) ∨ (∃ g : Nat, len = g ∧ z = g ∧ 1 ≤ g ∧ g ≤ 60 ∧ ∀ i, i < g → row i = row' i ∧ 0 ≤ row i ∧ row i < 60) := by
  rcases h with ⟨h1, h2⟩ | ⟨g, x, h1, h2, ⟨r, h3⟩, h4, h5, h6⟩
  · rcases h' with ⟨k1, k2⟩ | ⟨g', x', k1, k2, k3, ⟨r', k4⟩, _⟩
    · exact Or.inl ⟨h1, k1⟩
    · exact absurd k4 (h2 r' g')
  · rcases h' with ⟨k1, k2⟩ | ⟨g', x', k1, k2, k3, ⟨r', k4⟩, k5, k6, k7⟩
    · exact absurd h3 (k2 r g)
    · have e1 := h4 r' g' k4
      have e2 := k5 r g h3
      have e : g' = g := by omega
      subst e
      refine Or.inr ⟨g', h1, k1, k3, h2, fun i hi => ?_⟩
      have ex := zFst_u h5 k6 i hi
      have hx : x i < N := by
        rcases Nat.eq_zero_or_pos i with e0 | e0
        · rw [e0]; exact h5.1.2.1
        · exact (h5.1.2.2.1 i e0 hi).2
      rw [h6 i hi, k7 i hi, ex]
      rw [ex] at hx
      exact ⟨rfl, by omega, by omega⟩
section QR2
variable {f : Nat} {m : aj_M} {X : aj_M → Prop} {A S N : Nat → Int} {V : Nat → Nat → Int} {I : Nat → Bool} {T : Nat → Int} {n : Nat} {fk fa : Int}
theorem cur_zG {m1 : aj_M} (h : cCur m A) (z : zG m m1) (h16 : m1 [3, 8, 0] 16 = 0) (hk : m1 [8, 0] 0 = 1) (hr : zRg (zNn A) (zLk A).length (zFa A) (zFb A) (m1 [8, 0] 1) (m1 [2, 8, 0])) : cCur m1 A ∧ zo nSl m m1 := by
  obtain ⟨z1, z2, z3⟩ := z
  obtain ⟨h1, h2, h3, ⟨s, e, hc⟩, h5, h6, h7⟩ := h
  refine ⟨⟨by rw [z1 _ (by decide)]; exact h1, h16, z3 h3, ⟨s, e, nC_of hc (z2 0 (by decide) (by decide)) (z2 1 (by decide) (by decide)) (z1 _ (by decide)) (z1 _ (by decide)) (z1 _ (by decide)) (z1 _ (by decide))⟩, ?_, ?_, Or.inr ⟨hk, hr⟩⟩, zo_m z1 (by decide)⟩
  · rw [z1 [4, 3, 8, 0] (by decide), z1 [5, 3, 8, 0] (by decide)]; exact h5
  · rw [z2 7 (by decide) (by decide), z1 [6, 3, 8, 0] (by decide)]; exact h6
theorem cur_zC0 {m1 : aj_M} (h : cCur m A) (z : zC0 m m1) : cCur m1 A ∧ zo nSl m m1 := by
  obtain ⟨z1, z2⟩ := z
  obtain ⟨h1, h2, h3, ⟨s, e, hc⟩, h5, h6, h7⟩ := h
  refine ⟨⟨by rw [z1 _ (by decide)]; exact h1, by rw [z1 _ (by decide)]; exact h2, by rw [z1 [12, 3, 8, 0] (by decide)]; exact h3, ⟨s, e, nC_of hc (by rw [z1 _ (by decide)]) (by rw [z1 _ (by decide)]) (z1 _ (by decide)) (z1 _ (by decide)) (z1 _ (by decide)) (z1 _ (by decide))⟩, ?_, ?_, ?_⟩, zo_m z1 (by decide)⟩
  · rw [z1 [4, 3, 8, 0] (by decide), z1 [5, 3, 8, 0] (by decide)]; exact h5
  · rw [z1 [3, 8, 0] (by decide), z1 [6, 3, 8, 0] (by decide)]; exact h6
  · rw [z2 0 (by decide), z2 1 (by decide), z1 [2, 8, 0] (by decide)]; exact h7
/-- the first ring of the class -/
theorem pFst {Φ : aj_M → Prop} (hf : 10000 ≤ f) (C : CI m A S N V I T n fk fa) (cu : cCur m A) (hK : ∀ m1, CI m1 A S N V I T n fk fa → kR m m1 → zRg (zNn A) (zLk A).length (zFa A) (zFb A) (m1 [8, 0] 1) (m1 [2, 8, 0]) → Φ m1) : wX8_findFirst f Φ [8, 0] m := by
  obtain ⟨s, e, hc⟩ := cu.2.2.2.1
  refine pX8_findFirst hc cu.2.2.1 cu.2.1 (by omega) cu.2.2.2.2.2.2 (fun m1 z h16 hk hr => ?_)
  obtain ⟨c1, z1⟩ := cur_zG cu z h16 hk hr
  exact hK m1 (CI_net C z1 (cCur_n c1)) (kR_n z1) hr
/-- the first ring of the reference -/
theorem pFstR {Φ : Int → aj_M → Prop} {m1 : aj_M} (hf : 10000 ≤ f) (P : PI A S N V I T n fk fa) (R : RI m A S N V I T n fk fa) (k : rNk m m1) (hK : ∀ z m', rNk m m' → zRr (zNn A) (zLk A).length (zFa A) (zFb A) z (m' [30, 1]) → Φ z m') : wX12_laysRing f Φ [1] m1 :=
  pNetR hf P R k (fun m2 k2 n1 n2 n3 => pX12_laysRing0 n1 n3 (by omega) (fun z m' hz zz => hK z m' (rNk_t k2 zz (by decide) (by decide)) hz))
theorem cl_ring (hf : 10000 ≤ f) (H : gInv m) (hX : ∀ m', gInv m' → X m') {v : Int} (hv : rI v) (G : Int → aj_M → Prop) (hG : ∀ z m1, wX12_ring f (fun z2 m2 => rI z ∧ rI z2 ∧ (z = z2 → X m2) ∧ (¬ z = z2 → False)) [1] v m1 → G z m1) : wX11_ring f G [0] v m := by
  obtain ⟨A, S, N, V, I, T, n, fk, fa, P, C, R⟩ := H
  have hNb := (zNn_b P.1).2.2
  refine ⟨hv, fun c => ?_, fun c => hG _ _ ?_⟩
  · refine pCur hf P C (fun m1 C1 k1 cu => pFst hf C1 cu (fun m2 C2 k2 hr => ?_))
    have R2 := RI_k (RI_k R k1) k2
    have hl : 0 ≤ m2 [8, 0] 1 ∧ m2 [8, 0] 1 ≤ 60 := by
      rcases hr with h | ⟨g, x, h1, h2, _⟩
      · have := h.1; omega
      · omega
    have go : ∀ y : Int, (m2 [8, 0] 1 ≤ v → y = -1) → (v < m2 [8, 0] 1 → y = m2 [2, 8, 0] v.toNat) → G y m2 := fun y y1 y2 => hG _ _ (by
      rintro _ rfl
      refine ⟨hv, fun _ => pFstR hf P R2 rNk_0 (fun z m3 k3 hz => ?_), fun x => absurd c x⟩
      have fin := hX _ (rn_inv P C2 R2 k3)
      rcases ring_eq hNb hr hz with ⟨e1, e2⟩ | ⟨g, e1, e2, e3, e4, e5⟩
      · have ey := y1 (by omega)
        refine ⟨hv, ⟨by omega, by omega⟩, fun x => q2 ey (by rw [ey]; decide) fin, fun x => by omega⟩
      · refine ⟨hv, ⟨by omega, by omega⟩, fun x => ?_, fun x => ⟨⟨by omega, by omega⟩, ?_⟩⟩
        · have ey := y1 (by omega)
          exact q2 ey (by rw [ey]; decide) fin
        · have ey := y2 (by omega)
          obtain ⟨w1, w2, w3⟩ := e5 v.toNat (by omega)
          exact q2 (by rw [ey, w1]) (by rw [ey]; exact ⟨by omega, by omega⟩) fin)
    exact ⟨hv, ⟨by omega, by omega⟩, fun x => go _ (fun _ => rfl) (fun y => by omega), fun x => ⟨⟨by omega, by omega⟩, go _ (fun y => by omega) (fun _ => rfl)⟩⟩
  · rintro _ rfl
    exact ⟨hv, fun x => absurd x c, fun _ => q2 rfl (by decide) (hX _ (inv_q P C kC_rZ (RI_rZ R)))⟩
theorem cl_rings (hf : 10000 ≤ f) (H : gInv m) (hX : ∀ m', gInv m' → X m') {v : Int} (hv : rI v) (G : Int → aj_M → Prop) (hG : ∀ z m1, wX12_rings f (fun z2 m2 => rI z ∧ rI z2 ∧ (z = z2 → X m2) ∧ (¬ z = z2 → False)) [1] v m1 → G z m1) : wX11_rings f G [0] v m := by
  obtain ⟨A, S, N, V, I, T, n, fk, fa, P, C, R⟩ := H
  have hNb := (zNn_b P.1).2.2
  have bad : ¬ (1 ≤ v ∧ v ≤ 6) → G (-3) m := fun c => hG _ _ (by
    rintro _ rfl
    exact ⟨hv, pW12_within (rL_rI hv) (by decide) (by decide) (fun x y => absurd ⟨x, y⟩ c) (fun _ => zc0 (q2 rfl (by decide) (hX _ (inv_q P C kC_rZ (RI_rZ R)))))⟩)
  refine ⟨hv, fun c => bad (by omega), fun c => ⟨hv, fun d => ?_, fun d => bad (by omega)⟩⟩
  obtain ⟨l, rfl⟩ : ∃ l : Nat, v = l := ⟨v.toNat, by omega⟩
  have few := zFew_A P.1
  refine pCur hf P C (fun m1 C1 k1 cu => ?_)
  obtain ⟨s, e, hc⟩ := cu.2.2.2.1
  refine pX8_countOf hc few ⟨by omega, by omega⟩ (by omega) (fun m2 z => hG _ _ ?_)
  obtain ⟨c2, z2⟩ := cur_zC0 cu z
  have C2 := CI_net C1 z2 (cCur_n c2)
  have R2 := RI_k (RI_k R k1) (kR_n z2)
  rintro _ rfl
  refine ⟨hv, pW12_within (rL_rI hv) (by decide) (by decide) (fun _ _ => zc1 ?_) (fun x => absurd ⟨by omega, d⟩ x)⟩
  refine pNetR hf P R2 rNk_0 (fun m3 k3 n1 n2 n3 => pX12_rings0 n1 n3 few ⟨by omega, by omega⟩ (by omega) (fun m4 z4 => ?_))
  exact q2 rfl (zRv_b hNb (zLk_len P.1) few ⟨by omega, by omega⟩) (hX _ (rn_inv P C2 R2 (rNk_t k3 z4 (by decide) (by decide))))
/-- links are weighed: the class -/
theorem pWei {Φ : aj_M → Prop} {tw : Int} (hf : 10000 ≤ f) (P : PI A S N V I T n fk fa) (C : CI m A S N V I T n fk fa) (cu : cCur m A) (ht : tw = A 62) (hK : ∀ m1, CI m1 A S N V I T n fk fa → kR m m1 → cCur m1 A → (∀ l, l < (zLk A).length → m1 [6, 3, 8, 0] l = zWt A (zFr A l) (zFx A l) (A 62)) → Φ m1) : wX5_weighLinks f Φ [3, 8, 0] [1, 0] tw m := by
  subst ht
  obtain ⟨h1, h2, h3, ⟨s, e, hc⟩, h5, h6, h7⟩ := cu
  refine pX5_weighLinks rfl P.1 C.2.1.1 hc h5 h6 (by omega) (fun m1 w1 w2 w3 w4 => ?_)
  have z : zo nSl m m1 := zo_m (l := [[3, 8, 0], [6, 3, 8, 0], [6, 1, 1, 0]]) w4 (by decide)
  have c1 : cCur m1 A := by
    refine ⟨by rw [w4 _ (by decide)]; exact h1, by rw [w3 16 (by decide)]; exact h2, by rw [w4 [12, 3, 8, 0] (by decide)]; exact h3, ⟨s, e, nC_of hc (w3 0 (by decide)) (w3 1 (by decide)) (w4 _ (by decide)) (w4 _ (by decide)) (w4 _ (by decide)) (w4 _ (by decide))⟩, ?_, Or.inr ⟨w2, w1⟩, ?_⟩
    · rw [w4 [4, 3, 8, 0] (by decide), w4 [5, 3, 8, 0] (by decide)]; exact h5
    · rw [w4 [8, 0] (by decide), w4 [2, 8, 0] (by decide)]; exact h7
  exact hK m1 (CI_net C z (cCur_n c1)) (kR_n z) c1 w1
theorem r20 {m2 : aj_M} (h : zRw3 A (zLk A) (m2 [20, 1])) : ∀ l, l < (zLk A).length → m2 [20, 1] l = zWt A (zFr A l) (zFx A l) (A 62) := fun l hl => h l _ (zLk_at hl)
theorem zN_nDD {q : List Nat} {B : Int} {Ct Vv : Nat → Int} (h : ∀ k, rI (Vv k)) : zN q m (nD m q B Ct Vv) := by
  refine ⟨fun r hr => ?_, fun j hj => ?_, fun _ k => ?_⟩
  · simp only [List.mem_cons, List.not_mem_nil, or_false, not_or] at hr
    simp [nD, zr_ur, hr.1, hr.2.2.1, hr.2.2.2.1]
  · simp [nD, zr_ur, st, hj]
  · have : nD m q B Ct Vv (12 :: q) = Vv := by simp [nD, zr_ur]
    rw [this]
    exact h k
theorem cl_light (hf : 10000 ≤ f) (H : gInv m) (hX : ∀ m', gInv m' → X m') {v w : Int} (hv : rI v) (hw : rI w) (G : Int → aj_M → Prop) (hG : ∀ z m1, wX12_light f (fun z2 m2 => rI z ∧ rI z2 ∧ (z = z2 → X m2) ∧ (¬ z = z2 → False)) [1] v w m1 → G z m1) : wX11_light f G [0] v w m := by
  obtain ⟨A, S, N, V, I, T, n, fk, fa, P, C, R⟩ := H
  have hNb := zNn_b P.1
  have hwt : ∀ l, l < (zLk A).length → 1 ≤ zWt A (zFr A l) (zFx A l) (A 62) ∧ zWt A (zFr A l) (zFx A l) (A 62) ≤ 99 := fun l _ => zWt_b
  refine pCur hf P C (fun m1 C1 k1 cu => ?_)
  have R1 := RI_k R k1
  obtain ⟨s, e, hc⟩ := cu.2.2.2.1
  have bad : ¬ ((0 ≤ v ∧ v < zNn A) ∧ (0 ≤ w ∧ w < zNn A)) → G (-2) m1 := fun c => hG _ _ (by
    rintro _ rfl
    refine ⟨hv, pIsNode P (row_0 R1) hv (fun a b => zb1 ⟨hw, pIsNode P (row_0 R1) hw (fun x y => absurd ⟨⟨a, b⟩, ⟨x, y⟩⟩ c) (fun _ => zc0 (q2 rfl (by decide) (hX _ (rn_inv P C1 R1 rNk_0))))⟩) (fun _ => zb0 (q2 rfl (by decide) (hX _ (rn_inv P C1 R1 rNk_0))))⟩)
  refine pX5_has hv hc.1 ⟨by omega, by omega⟩ (fun a1 a2 => zb1 (pX5_has hw hc.1 ⟨by omega, by omega⟩ (fun b1 b2 => zc1 ?_) (fun b => zc0 (bad (fun x => b x.2))))) (fun a => zb0 (bad (fun x => a x.1)))
  obtain ⟨v, rfl⟩ : ∃ v' : Nat, v = v' := ⟨v.toNat, by omega⟩
  obtain ⟨w, rfl⟩ : ∃ v' : Nat, w = v' := ⟨w.toNat, by omega⟩
  refine pWei hf P C1 cu C1.2.2.1.2.2 (fun m2 C2 k2 cu2 hwl => ?_)
  obtain ⟨s2, e2, hc2⟩ := cu2.2.2.2.1
  refine pX5_lightFrom hc2 hwt hwl (by omega) (by omega) cu2.2.2.1 (fun B Ct Vv lb hD hr => ⟨⟨by omega, by omega⟩, ?_⟩)
  obtain ⟨C3, k3⟩ := cq C2 cu2 (zN_nDD (B := B) (Ct := Ct) hr)
  have R3 := RI_k (RI_k R1 k2) k3
  have e11 : nD m2 [3, 8, 0] B Ct Vv [11, 3, 8, 0] = Ct := by simp [nD, zr_ur]
  rw [e11, Int.toNat_natCast]
  have hcw := hD.2.1 w (by omega)
  have go : ∀ y : Int, (Ct w < 1000000 → y = Ct w) → (1000000 ≤ Ct w → y = -1) → G y (nD m2 [3, 8, 0] B Ct Vv) := fun y y1 y2 => hG _ _ (by
    rintro _ rfl
    refine ⟨hv, pIsNode P (row_0 R3) hv (fun _ _ => zb1 ⟨hw, pIsNode P (row_0 R3) hw (fun _ _ => zc1 ?_) (fun x => absurd ⟨b1, b2⟩ x)⟩) (fun x => absurd ⟨a1, a2⟩ x)⟩
    refine pNetR hf P R3 rNk_0 (fun m4 k4 n1 n2 n3 => pX12_laysLight n1 hwt (r20 n2) (by decide) (by omega) (by omega) (fun Cr Tr Vr lr hDr => ⟨⟨by omega, by omega⟩, ?_⟩))
    have hDr' := zDC_congr (jn' := zJ (zNn A) (zLk A).length (zFa A) (zFb A)) (fun l u v => ⟨fun x => x.1, fun x => ⟨x, by omega⟩⟩) hDr
    have W1 := zjw_J (N := zNn A) (L := (zLk A).length) (a := zFa A) (b := zFb A) (w := fun l => zWt A (zFr A l) (zFx A l) (A 62)) (inf := 1000000) hwt (by decide) hNb.2.2
    have W2 := zjw_J (N := zNn A) (L := (zLk A).length) (a := zFa A) (b := zFb A) (w := fun l => zWt A (zFr A l) (zFx A l) (A 62)) (inf := 268435456) hwt (by decide) hNb.2.2
    have l1 : Ct w < 1000000 → Cr w < 268435456 ∧ Cr w ≤ Ct w := zDC_le' W1 W2 (fun _ _ _ x => x) hD hDr' (by omega)
    have l2 : Cr w < 268435456 → Ct w < 1000000 ∧ Ct w ≤ Cr w := zDC_le' W2 W1 (fun _ _ _ x => x) hDr' hD (by omega)
    have hcr := hDr'.2.1 w (by omega)
    have e31 : rD m4 [1] Cr Tr [31, 1] = Cr := rD_31
    rw [e31, Int.toNat_natCast]
    have fin := hX _ (rn_inv P C3 R3 (rNk_t k4 (l := [[31, 1], [32, 1]]) (m2 := rD m4 [1] Cr Tr) (fun p hp => by
      simp only [List.mem_cons, List.not_mem_nil, or_false, not_or] at hp
      exact rD_off hp.1 hp.2) (by decide) (by decide)))
    refine pX12_toldFar ⟨by omega, by omega⟩ (fun x => ?_) (fun x => ?_)
    · have x2 := l2 x
      have x3 := l1 x2.1
      have ey := y1 x2.1
      exact q2 (by omega) ⟨by omega, by omega⟩ fin
    · have x2 : 1000000 ≤ Ct w := by
        by_cases c : Ct w < 1000000
        · have := l1 c
          omega
        · omega
      have ey := y2 x2
      exact q2 ey (by rw [ey]; decide) fin)
  exact pX11_orNone ⟨by omega, by omega⟩ (fun c => go _ (fun _ => rfl) (fun x => by omega)) (fun c => go _ (fun x => by omega) (fun _ => rfl))
theorem cl_lightest (hf : 10000 ≤ f) (H : gInv m) (hX : ∀ m', gInv m' → X m') (G : Int → aj_M → Prop) (hG : ∀ z m1, wX12_lightest f (fun z2 m2 => rI z ∧ rI z2 ∧ (z = z2 → X m2) ∧ (¬ z = z2 → False)) [1] m1 → G z m1) : wX11_lightest f G [0] m := by
  obtain ⟨A, S, N, V, I, T, n, fk, fa, P, C, R⟩ := H
  have hNb := zNn_b P.1
  have hwt : ∀ l, l < (zLk A).length → 1 ≤ zWt A (zFr A l) (zFx A l) (A 62) ∧ zWt A (zFr A l) (zFx A l) (A 62) ≤ 99 := fun l _ => zWt_b
  refine pCur hf P C (fun m1 C1 k1 cu => ?_)
  have R1 := RI_k R k1
  refine pWei hf P C1 cu C1.2.2.1.2.2 (fun m2 C2 k2 cu2 hwl => ?_)
  obtain ⟨s2, e2, hc2⟩ := cu2.2.2.2.1
  refine pX5_lightestRing hc2 hwt hwl (by omega) cu2.2.2.1 (fun z z' m3 hz hzz zn _ => ?_)
  obtain ⟨C3, k3⟩ := cq C2 cu2 zn
  have R3 := RI_k (RI_k R1 k2) k3
  have hab : ∀ l, l < (zLk A).length → zFa A l < zNn A ∧ zFb A l < zNn A := fun l hl => ⟨(zLk_b P.1 hl).1, (zLk_b P.1 hl).2.1⟩
  have hb : -1 ≤ z' ∧ z' ≤ 6039 := by
    rcases hz with h | ⟨l, h1, h2, _⟩
    · omega
    · have := zDl_b hwt hab h1 h2
      omega
  have go : ∀ y : Int, y = z' → G y m3 := fun y hy => hG _ _ (by
    rintro _ rfl
    refine pNetR hf P R3 rNk_0 (fun m4 k4 n1 n2 n3 => pX12_lightest0 n1 hwt (r20 n2) (by omega) (fun z2 m5 hz2 z5 => ?_))
    have e := zLt_u hz hz2
    exact q2 (by omega) ⟨by omega, by omega⟩ (hX _ (rn_inv P C3 R3 (rNk_t k4 z5 (by decide) (by decide)))))
  refine pX11_orNone ⟨by omega, by omega⟩ (fun c => go _ (by omega)) (fun c => go _ (by omega))
theorem cl_count (hf : 10000 ≤ f) (H : gInv m) (hX : ∀ m', gInv m' → X m') {v : Int} (hv : rI v) (G : Int → aj_M → Prop) (hG : ∀ z m1, wX12_count f (fun z2 m2 => rI z ∧ rI z2 ∧ (z = z2 → X m2) ∧ (¬ z = z2 → False)) [1] v m1 → G z m1) : wX11_count f G [0] v m := by
  obtain ⟨A, S, N, V, I, T, n, fk, fa, P, C, R⟩ := H
  have hNb := zNn_b P.1
  have h5 := P.1.2.1
  have h4 := gOK_n P.1.1
  have h6 := P.1.2.2.1
  have h62 := P.1.2.2.2.2.2.1
  obtain ⟨cu, hcu, hcu2⟩ := P.1.2.2.2.2.1
  have h0 := P.1.2.2.2.2.2.2.1
  have h63 := P.2.1.1
  have hn := P.2.2.2.2.2.1
  have hL := zLk_len P.1
  have eN : ((zNn A : Nat) : Int) = A 5 * A 4 := by
    unfold zNn
    have : 0 ≤ A 5 * A 4 := Int.mul_nonneg (by omega) (by omega)
    omega
  have go : ∀ (m1 : aj_M) (y : Int), CI m1 A S N V I T n fk fa → RI m1 A S N V I T n fk fa → ((v < 0 ∨ 9 < v) → y = -1) → (v = 0 → y = A 5) → (v = 1 → y = A 6) → (v = 2 → y = A 4) → (v = 3 → y = A 62) → (v = 4 → y = zNn A) → (v = 5 → y = (zLk A).length) → (v = 6 → y = A 61) → (v = 7 → y = A 63) → (v = 8 → y = n) → (v = 9 → y = A 0) → G y m1 := by
    intro m1 y C1 R1 ya y0 y1 y2 y3 y4 y5 y6 y7 y8 y9
    refine hG _ _ ?_
    rintro _ rfl
    refine pNetR hf P R1 rNk_0 (fun m2 k2 n1 n2 n3 => ?_)
    have fin := hX _ (rn_inv P C1 R1 k2)
    have row : m2 [1, 1] = A := by rw [k2.1 _ (by decide)]; exact R1.1
    have e5 : m2 [1] 5 = n := (k2.2 5 (by decide) (by decide) (by decide)).trans R1.2.2.2.1.1
    rw [row]
    refine ⟨hv, fun x => ?_, fun x => ?_, fun x => ?_, fun x => ?_, fun x => ?_, fun x => ?_, fun x => ?_, fun x => ?_, fun x => ?_, fun x => ?_, fun x => ?_⟩
    · have := ya x; exact q2 this (by rw [this]; decide) fin
    · have := y0 x; exact q2 this ⟨by omega, by omega⟩ fin
    · have := y1 x; exact q2 this ⟨by omega, by omega⟩ fin
    · have := y2 x; exact q2 this ⟨by omega, by omega⟩ fin
    · have := y3 x; exact q2 this ⟨by omega, by omega⟩ fin
    · have := y4 x; exact q2 (this.trans n1.2.1.symm) ⟨by omega, by omega⟩ fin
    · have := y5 x; exact q2 (this.trans n1.1.symm) ⟨by omega, by omega⟩ fin
    · have := y6 x; exact q2 this ⟨by omega, by omega⟩ fin
    · have := y7 x; exact q2 this ⟨by omega, by omega⟩ fin
    · have := y8 x; exact q2 (this.trans e5.symm) ⟨by omega, by omega⟩ fin
    · have := y9 x; exact q2 this ⟨by omega, by omega⟩ fin
  have g3 : m [1, 0] 3 = A 5 := C.2.1.1.2.1
  have g4 : m [1, 0] 4 = A 6 := C.2.1.1.2.2.1
  have g5 : m [1, 0] 5 = A 0 := C.2.1.1.2.2.2.1
  have gg : m [0, 1, 0] 0 = A 4 := C.2.1.1.1.1
  have s1 : m [2, 0] 1 = A 61 := C.2.2.1.2.1
  have s2 : m [2, 0] 2 = A 62 := C.2.2.1.2.2
  have hh : m [5, 0] 2 = A 63 := by
    obtain ⟨nx, _, _, x, _⟩ := C.1.1
    exact x
  have tt : m [0, 0] 1 = n := C.1.2.2.2.1.1
  unfold wX11_count
  rw [g3, g4, g5, gg, s1, s2, hh, tt]
  refine ⟨hv, fun x => ?_, fun x => ?_, fun x => ?_, fun x => ?_, fun x => ?_, fun x => ?_, fun x => ?_, fun x => ?_, fun x => ?_, fun x => ?_, fun x => ?_⟩
  · exact go m _ C R (fun _ => rfl) (by omega) (by omega) (by omega) (by omega) (by omega) (by omega) (by omega) (by omega) (by omega) (by omega)
  · exact go m _ C R (by omega) (fun _ => rfl) (by omega) (by omega) (by omega) (by omega) (by omega) (by omega) (by omega) (by omega) (by omega)
  · exact go m _ C R (by omega) (by omega) (fun _ => rfl) (by omega) (by omega) (by omega) (by omega) (by omega) (by omega) (by omega) (by omega)
  · exact go m _ C R (by omega) (by omega) (by omega) (fun _ => rfl) (by omega) (by omega) (by omega) (by omega) (by omega) (by omega) (by omega)
  · exact go m _ C R (by omega) (by omega) (by omega) (by omega) (fun _ => rfl) (by omega) (by omega) (by omega) (by omega) (by omega) (by omega)
  · exact go m _ C R (by omega) (by omega) (by omega) (by omega) (by omega) (fun _ => eN.symm) (by omega) (by omega) (by omega) (by omega) (by omega)
  · refine pCur hf P C (fun m1 C1 k1 cu => ?_)
    obtain ⟨s, e, hc⟩ := cu.2.2.2.1
    exact go m1 _ C1 (RI_k R k1) (by omega) (by omega) (by omega) (by omega) (by omega) (by omega) (fun _ => hc.2.1) (by omega) (by omega) (by omega) (by omega)
  · exact go m _ C R (by omega) (by omega) (by omega) (by omega) (by omega) (by omega) (by omega) (fun _ => rfl) (by omega) (by omega) (by omega)
  · exact go m _ C R (by omega) (by omega) (by omega) (by omega) (by omega) (by omega) (by omega) (by omega) (fun _ => rfl) (by omega) (by omega)
  · exact go m _ C R (by omega) (by omega) (by omega) (by omega) (by omega) (by omega) (by omega) (by omega) (by omega) (fun _ => rfl) (by omega)
  · exact go m _ C R (by omega) (by omega) (by omega) (by omega) (by omega) (by omega) (by omega) (by omega) (by omega) (by omega) (fun _ => rfl)
end QR2
