/-! THE REFERENCE LIFTS THE NETWORK -/
def rT (m : aj_M) (q : List Nat) (g0 g18 g19 g20 w S : Nat → Int) : aj_M := aj_ur (aj_ur (aj_ur (aj_ur (aj_ur (aj_ur m q g0) (18 :: q) g18) (19 :: q) g19) (20 :: q) g20) (17 :: q) w) (16 :: q) S
theorem rT_off {m : aj_M} {q r : List Nat} {g0 g18 g19 g20 w S : Nat → Int} (h0 : r ≠ q) (h2 : r ≠ 18 :: q) (h3 : r ≠ 19 :: q) (h4 : r ≠ 20 :: q) (h5 : r ≠ 17 :: q) (h6 : r ≠ 16 :: q) : rT m q g0 g18 g19 g20 w S r = m r := by simp [rT, zr_ur, h0, h2, h3, h4, h5, h6]
theorem rT_r {m : aj_M} {q : List Nat} {g0 g18 g19 g20 w S : Nat → Int} : rT m q g0 g18 g19 g20 w S q = g0 ∧ rT m q g0 g18 g19 g20 w S (18 :: q) = g18 ∧ rT m q g0 g18 g19 g20 w S (19 :: q) = g19 ∧ rT m q g0 g18 g19 g20 w S (20 :: q) = g20 ∧ rT m q g0 g18 g19 g20 w S (1 :: q) = m (1 :: q) := by simp [rT, zr_ur]
theorem rT_w0 {m : aj_M} {q : List Nat} {g0 g18 g19 g20 w S : Nat → Int} {j : Nat} {x : Int} : aj_u (rT m q g0 g18 g19 g20 w S) q j x = rT m q (st g0 j x) g18 g19 g20 w S := by simp [rT, zu_push]
theorem rT_w18 {m : aj_M} {q : List Nat} {g0 g18 g19 g20 w S : Nat → Int} {j : Nat} {x : Int} : aj_u (rT m q g0 g18 g19 g20 w S) (18 :: q) j x = rT m q g0 (st g18 j x) g19 g20 w S := by simp [rT, zu_push]
theorem rT_w19 {m : aj_M} {q : List Nat} {g0 g18 g19 g20 w S : Nat → Int} {j : Nat} {x : Int} : aj_u (rT m q g0 g18 g19 g20 w S) (19 :: q) j x = rT m q g0 g18 (st g19 j x) g20 w S := by simp [rT, zu_push]
theorem rT_w20 {m : aj_M} {q : List Nat} {g0 g18 g19 g20 w S : Nat → Int} {j : Nat} {x : Int} : aj_u (rT m q g0 g18 g19 g20 w S) (20 :: q) j x = rT m q g0 g18 g19 (st g20 j x) w S := by simp [rT, zu_push]
theorem rT_rW {m : aj_M} {q : List Nat} {g0 g18 g19 g20 w S w' S' : Nat → Int} : rW (rT m q g0 g18 g19 g20 w S) q w' S' = rT m q g0 g18 g19 g20 w' S' := by
  unfold rW rT
  rw [zm_ur_comm (p := 16 :: q) (q := 17 :: q) (by simp), zm_ur_ur, zm_ur_ur]
theorem rT_self {m : aj_M} {q : List Nat} : rT m q (m q) (m (18 :: q)) (m (19 :: q)) (m (20 :: q)) (m (17 :: q)) (m (16 :: q)) = m := by
  unfold rT
  rw [zm_ur_id (p := 16 :: q) (fun k => by simp [zr_ur]), zm_ur_id (p := 17 :: q) (fun k => by simp [zr_ur]), zm_ur_id (p := 20 :: q) (fun k => by simp [zr_ur]), zm_ur_id (p := 19 :: q) (fun k => by simp [zr_ur]), zm_ur_id (p := 18 :: q) (fun k => by simp [zr_ur]), zm_ur_self]
def zjn (L : Nat) (a b : Nat → Nat) (u v : Nat) : Nat := zcnt (fun l => decide ((a l = u ∧ b l = v) ∨ (a l = v ∧ b l = u))) L
theorem zjn_sym {L : Nat} {a b : Nat → Nat} {u v : Nat} : zjn L a b u v = zjn L a b v u := by
  unfold zjn
  refine zcnt_ext L (fun l _ => ?_)
  exact decide_eq_decide.mpr ⟨fun h => h.symm, fun h => h.symm⟩
theorem zjn_le {L : Nat} {a b : Nat → Nat} {u v : Nat} : zjn L a b u v ≤ L := zcnt_le L
theorem pX12_isIn {f : Nat} {Φ : Int → aj_M → Prop} {m : aj_M} {C ar : Nat} (hC2 : C < 2 ^ 63) (har : ar < 63) (h1 : C.testBit ar = true → Φ 1 m) (h0 : C.testBit ar = false → Φ 0 m) : wX12_isIn f Φ C ar m := by
  unfold wX12_isIn
  rw [zl_bit hC2 (by omega)]
  by_cases hb : C.testBit ar = true
  · simp only [hb, if_true]
    exact ⟨by decide, fun c => absurd trivial c, fun _ => h1 hb⟩
  · have hb' : C.testBit ar = false := by simpa using hb
    simp only [hb']
    exact ⟨by decide, fun _ => h0 hb', fun c => absurd c (by decide)⟩
/-- weights beside such a list -/
def zRw3 (A : Nat → Int) (l : List (Nat × Nat × Nat × Nat)) (g : Nat → Int) : Prop := ∀ i z, l[i]? = some z → g i = zWt A z.1 z.2.1 (A 62)
theorem zRw3_snoc {A : Nat → Int} {l : List (Nat × Nat × Nat × Nat)} {g : Nat → Int} {z : Nat × Nat × Nat × Nat} (h : zRw3 A l g) : zRw3 A (l ++ [z]) (st g l.length (zWt A z.1 z.2.1 (A 62))) := by
  intro i z' e
  by_cases hi : i < l.length
  · rw [List.getElem?_append_left hi] at e
    rw [st_ne (by omega)]
    exact h i z' e
  · rw [List.getElem?_append_right (by omega)] at e
    have : i = l.length := by
      have := (List.getElem?_eq_some_iff.mp e).1
      simp at this
      omega
    subst this
    simp at e
    subst e
    exact st_at
theorem pX12_laysNet {f : Nat} {Φ : aj_M → Prop} {q : List Nat} {m : aj_M} {A : Nat → Int} (hA : wA A) (hm : ∀ j, j < 1105 → m (1 :: q) j = A j) (hf : 4000 ≤ f)
    (hK : ∀ m' : aj_M, nR m' q (zNn A) (zLk A).length (zFa A) (zFb A) → zRw3 A (zLk A) (m' (20 :: q)) → (∀ u v, u < 60 → v < 60 → m' (21 :: q) (60 * u + v) = zjn (zLk A).length (zFa A) (zFb A) u v) → (∀ r, r ∉ ([q, 16 :: q, 17 :: q, 18 :: q, 19 :: q, 20 :: q, 21 :: q] : List (List Nat)) → m' r = m r) → (∀ j, j ≠ 22 → j ≠ 23 → m' q j = m q j) → Φ m') : wX12_laysNet f Φ q m := by
  have h12 := hA.2.2.1
  have h4 := gOK_n hA.1
  have hNn := zNn_b hA
  have ht := hA.2.2.2.2.2.1
  obtain ⟨C, hC, hC2⟩ := hA.2.2.2.2.1
  have eC : (A 61).toNat = C := by omega
  unfold wX12_laysNet
  rintro _ rfl
  rintro _ rfl
  have e0 : aj_u (aj_u m q 22 0) q 23 ((aj_u m q 22 0) (1 :: q) (5 : Int).toNat * (aj_u m q 22 0) (1 :: q) (4 : Int).toNat) = rT m q (st (st (m q) 22 0) 23 (zNn A : Int)) (m (18 :: q)) (m (19 :: q)) (m (20 :: q)) (m (17 :: q)) (m (16 :: q)) := by
    have e1 : aj_u m q 22 0 (1 :: q) = m (1 :: q) := aj_u_off (by simp)
    rw [e1]
    simp only [Int.reduceToNat]
    rw [hm 5 (by omega), hm 4 (by omega), hNn.1]
    have := congrArg (fun m' => aj_u (aj_u m' q 22 0) q 23 (zNn A : Int)) (rT_self (m := m) (q := q)).symm
    simp only [rT_w0] at this
    exact this
  rw [e0]
  -- the end: who is joined to whom
  have fin : ∀ (G0 g18 g19 g20 w S : Nat → Int), (G0 22 = ((zLk A).length : Nat) ∧ G0 23 = (zNn A : Int) ∧ ∀ j, j ≠ 22 → j ≠ 23 → G0 j = m q j) → zRw (zLk A) g18 g19 → zRw3 A (zLk A) g20 → hX12_laysNet_63 f Φ f q 0 (rT m q G0 g18 g19 g20 w S) := by
    intro G0 g18 g19 g20 w S hG hR hR3
    have hlen := zLk_len hA
    refine zfor (H := fun k i σ => hX12_laysNet_63 f Φ k q i σ) (N := 3600) (fun i σ => ∃ J : Nat → Int, σ = aj_ur (rT m q G0 g18 g19 g20 w S) (21 :: q) J ∧ ∀ k, k < i → J k = 0) ?_ f 0 _ (by omega) (by omega) ⟨_, (zm_ur_self (p := 21 :: q)).symm, fun k hk => by omega⟩
    rintro k i σ hi ⟨J, rfl, hJ⟩ hnext
    unfold hX12_laysNet_63
    refine ⟨⟨by omega, by omega⟩, fun c => ?_, fun c => ⟨⟨by omega, by omega⟩, ?_⟩⟩
    · have ei : i = 3600 := by omega
      subst ei
      have r0 : ∀ J, aj_ur (rT m q G0 g18 g19 g20 w S) (21 :: q) J q = G0 := fun J => by rw [zr_ur, if_neg (by simp), rT_r.1]
      have r18 : ∀ J, aj_ur (rT m q G0 g18 g19 g20 w S) (21 :: q) J (18 :: q) = g18 := fun J => by rw [zr_ur, if_neg (by simp), rT_r.2.1]
      have r19 : ∀ J, aj_ur (rT m q G0 g18 g19 g20 w S) (21 :: q) J (19 :: q) = g19 := fun J => by rw [zr_ur, if_neg (by simp), rT_r.2.2.1]
      have r21 : ∀ J, aj_ur (rT m q G0 g18 g19 g20 w S) (21 :: q) J (21 :: q) = J := fun J => by rw [zr_ur, if_pos rfl]
      refine zfor (H := fun k i σ => hX12_laysNet_85 f Φ k q i σ) (N := (zLk A).length) (fun i σ => ∃ J : Nat → Int, σ = aj_ur (rT m q G0 g18 g19 g20 w S) (21 :: q) J ∧ ∀ u v, u < 60 → v < 60 → J (60 * u + v) = zjn i (zFa A) (zFb A) u v) ?_ f 0 _ (by omega) (by omega) ⟨J, rfl, fun u v hu hv => by rw [hJ _ (by omega)]; rfl⟩
      rintro k' i' σ' hi' ⟨J', rfl, hJ'⟩ hnext'
      unfold hX12_laysNet_85
      simp only [r0, r18, r19, r21, hG.1, Int.toNat_natCast]
      refine ⟨⟨by omega, by omega⟩, ⟨by omega, by omega⟩, fun c => ?_, fun c => ?_⟩
      · have ei : i' = (zLk A).length := by omega
        subst ei
        refine hK _ ⟨by rw [r0]; exact hG.1, by rw [r0]; exact hG.2.1, hNn.2.1, hNn.2.2, hlen, fun l hl => ⟨(zLk_b hA hl).1, (zLk_b hA hl).2.1⟩, fun l hl => ?_⟩ ?_ ?_ ?_ ?_
        · rw [r18, r19]; exact hR l _ (zLk_at hl)
        · rw [zr_ur, if_neg (by simp), rT_r.2.2.2.1]; exact hR3
        · rw [r21]; exact hJ'
        · intro r hr
          simp only [List.mem_cons, List.not_mem_nil, or_false, not_or] at hr
          rw [zr_ur, if_neg hr.2.2.2.2.2.2, rT_off hr.1 hr.2.2.2.1 hr.2.2.2.2.1 hr.2.2.2.2.2.1 hr.2.2.1 hr.2.1]
        · intro j h1 h2
          rw [r0]; exact hG.2.2 j h1 h2
      · have hl : i' < (zLk A).length := by omega
        have hb := zLk_b hA hl
        have hr := hR i' _ (zLk_at hl)
        simp only [hr.1, hr.2]
        have eA : (60 * (zFa A i' : Int) + (zFb A i' : Int)).toNat = 60 * zFa A i' + zFb A i' := by omega
        have eB : (60 * (zFb A i' : Int) + (zFa A i' : Int)).toNat = 60 * zFb A i' + zFa A i' := by omega
        simp only [eA]
        have hJv := hJ' (zFa A i') (zFb A i') (by omega) (by omega)
        have hsuc : ∀ u v, zjn (i' + 1) (zFa A) (zFb A) u v = zjn i' (zFa A) (zFb A) u v + (if (zFa A i' = u ∧ zFb A i' = v) ∨ (zFa A i' = v ∧ zFb A i' = u) then 1 else 0) := by
          intro u v
          show zcnt _ i' + _ = _
          simp only [decide_eq_true_eq]
          rfl
        refine ⟨⟨by omega, by omega⟩, ⟨by omega, by omega⟩, ⟨by omega, by omega⟩, ⟨by omega, by omega⟩, ?_⟩
        rintro _ rfl
        simp only [zu_same, r18, r19, r21, hr.1, hr.2, eB, Int.toNat_natCast]
        refine ⟨⟨by omega, by omega⟩, ⟨by omega, by omega⟩, ⟨by omega, by omega⟩, ⟨by omega, by omega⟩, fun c2 => ?_, fun c2 => ⟨⟨by omega, by omega⟩, ⟨by omega, by omega⟩, ⟨by omega, by omega⟩, ⟨by omega, by omega⟩, ?_⟩⟩
        · refine hnext' (by omega) _ ⟨_, rfl, fun u v hu hv => ?_⟩
          rw [hsuc]
          by_cases e : 60 * u + v = 60 * zFa A i' + zFb A i'
          · have e1 : u = zFa A i' := by omega
            have e2 : v = zFb A i' := by omega
            subst e1
            subst e2
            rw [st_at, hJv, if_pos (Or.inl ⟨rfl, rfl⟩)]; omega
          · rw [st_ne e, hJ' u v hu hv, if_neg (by omega)]; rfl
        · rintro _ rfl
          refine hnext' (by omega) _ ⟨_, rfl, fun u v hu hv => ?_⟩
          rw [hsuc]
          by_cases e : 60 * u + v = 60 * zFb A i' + zFa A i'
          · have e1 : u = zFb A i' := by omega
            have e2 : v = zFa A i' := by omega
            subst e1
            subst e2
            rw [st_at, st_ne (by omega), hJ' _ _ hu hv, if_pos (Or.inr ⟨rfl, rfl⟩)]; omega
          · rw [st_ne e]
            by_cases e' : 60 * u + v = 60 * zFa A i' + zFb A i'
            · have e1 : u = zFa A i' := by omega
              have e2 : v = zFb A i' := by omega
              subst e1
              subst e2
              rw [st_at, hJv, if_pos (Or.inl ⟨rfl, rfl⟩)]; omega
            · rw [st_ne e', hJ' u v hu hv, if_neg (by omega)]; rfl
    · rintro _ rfl
      rw [zu_same]
      refine hnext (by omega) _ ⟨_, rfl, fun k hk => ?_⟩
      rw [Int.toNat_natCast]
      by_cases e : k = i
      · subst e; rw [st_at]
      · rw [st_ne e]; exact hJ k (by omega)
  -- the arcs
  refine zfor (H := fun k i σ => hX12_laysNet_24 f Φ k q i σ) (N := (A 6).toNat) (fun i σ => ∃ G0 g18 g19 g20 w S : Nat → Int, σ = rT m q G0 g18 g19 g20 w S ∧ (G0 22 = ((zLs A i).length : Nat) ∧ G0 23 = (zNn A : Int) ∧ ∀ j, j ≠ 22 → j ≠ 23 → G0 j = m q j) ∧ zRw (zLs A i) g18 g19 ∧ zRw3 A (zLs A i) g20) ?_ f 0 _ (by omega) (by omega) ⟨_, _, _, _, _, _, rfl, ⟨by rw [st_ne (by decide), st_at]; rfl, st_at, fun j h1 h2 => by rw [st_ne h2, st_ne h1]⟩, zRw_0, fun i z h => by simp [zLs] at h⟩
  rintro k i σ hi ⟨G0, g18, g19, g20, w, S, rfl, hG, hR, hR3⟩ hnext
  unfold hX12_laysNet_24
  simp only [rT_r, Int.reduceToNat, hm 6 (by omega), hm 61 (by omega)]
  refine ⟨⟨by omega, by omega⟩, ⟨by omega, by omega⟩, fun c => ?_, fun c => ⟨⟨by omega, by omega⟩, ?_⟩⟩
  · have ei : i = (A 6).toNat := by omega
    subst ei
    exact fin _ _ _ _ _ _ hG hR hR3
  · have hi6 : (i : Int) < A 6 := by omega
    have harc := hA.2.2.2.1 i hi6
    rw [hC]
    refine pX12_isIn (by omega) (by omega) (fun hb => zc1 ?_) (fun hb => zc0 ?_)
    · refine hnext (by omega) _ ⟨G0, g18, g19, g20, w, S, rfl, ?_, ?_, ?_⟩ <;> (unfold zLs; rw [eC, hb, if_pos rfl, List.append_nil]; assumption)
    · unfold wX12_laysArc
      refine zfor (H := fun kk x σ => hX12_laysArc_2 f (fun m2 => hX12_laysNet_24 f Φ k q ((i : Int) + 1) m2) kk q i x σ) (N := (A 4).toNat) (fun x σ => ∃ G0 g18 g19 g20 w S : Nat → Int, σ = rT m q G0 g18 g19 g20 w S ∧ (G0 22 = ((zLs A i ++ zLx A i x).length : Nat) ∧ G0 23 = (zNn A : Int) ∧ ∀ j, j ≠ 22 → j ≠ 23 → G0 j = m q j) ∧ zRw (zLs A i ++ zLx A i x) g18 g19 ∧ zRw3 A (zLs A i ++ zLx A i x) g20) ?_ f 0 _ (by omega) (by omega) ⟨G0, g18, g19, g20, w, S, rfl, by simpa [zLx] using hG, by simpa [zLx] using hR, by simpa [zLx] using hR3⟩
      rintro kk x σ hx ⟨G0, g18, g19, g20, w, S, rfl, hG, hR, hR3⟩ hstep
      unfold hX12_laysArc_2
      have e49 : (49 + (i : Int)).toNat = 49 + i := by omega
      have e37 : (37 + (i : Int)).toNat = 37 + i := by omega
      have e13 : (13 + (i : Int)).toNat = 13 + i := by omega
      have e25 : (25 + (i : Int)).toNat = 25 + i := by omega
      simp only [rT_r, Int.reduceToNat, hm 4 (by omega), e49, hm (49 + i) (by omega)]
      refine ⟨⟨by omega, by omega⟩, ⟨by omega, by omega⟩, fun c1 => ?_, fun c1 => ⟨⟨by omega, by omega⟩, ?_⟩⟩
      · have ex : x = (A 4).toNat := by omega
        subst ex
        refine hnext (by omega) _ ⟨G0, g18, g19, g20, w, S, rfl, ?_, ?_, ?_⟩ <;> (unfold zLs; rw [eC, hb, if_neg (by decide)]; assumption)
      · unfold wX12_timesNow
        have gf := g_fact hA.1 (show 0 ≤ (x : Int) by omega) (show (x : Int) < A 4 by omega) harc.2.2.2.1 harc.2.2.2.2
        refine pX12_times (by decide) (k := A 1) (a := A 2) (b := A 3) (n := A 4) (by rw [rT_r.2.2.2.2, hm 1 (by omega)]) (by rw [rT_r.2.2.2.2, hm 2 (by omega)]) (by rw [rT_r.2.2.2.2, hm 3 (by omega)]) hA.1 (by omega) (by omega) harc.2.2.2.1 harc.2.2.2.2 ?_
        simp only [rT_r, e37, hm (37 + i) (by omega)]
        have hskip : ∀ w S, zLb A i x = false → hX12_laysArc_2 f (fun m2 => hX12_laysNet_24 f Φ k q ((i : Int) + 1) m2) kk q i ((x : Int) + 1) (rT m q G0 g18 g19 g20 w S) := by
          intro w S hz
          refine hstep (by omega) _ ⟨G0, g18, g19, g20, w, S, rfl, ?_, ?_, ?_⟩ <;> (unfold zLx; rw [hz, if_neg (by decide), List.append_nil]; assumption)
        have hgo : (A (37 + i) = 1 → (x : Int) < gT (A 1) (A 2) (A 3) x (A (49 + i))) → hX12_laysArc_45 f (fun m2 => hX12_laysNet_24 f Φ k q ((i : Int) + 1) m2) (fun q0 v1 v2 m => hX12_laysArc_2 f (fun m2 => hX12_laysNet_24 f Φ k q ((i : Int) + 1) m2) kk q0 v1 v2 m) q i x (gT (A 1) (A 2) (A 3) x (A (49 + i))) (rT m q G0 g18 g19 g20 w S) := by
          intro hhalf
          unfold hX12_laysArc_45
          refine pX12_isKept hA (fun j hj => by rw [rT_r.2.2.2.2]; exact hm j hj) hi6 ⟨by omega, by omega⟩ (by omega) (fun w' S' => ⟨fun hkept => ?_, fun hkept => ?_⟩)
          · rw [rT_rW]
            have hz : zLb A i x = true := by
              unfold zLb
              exact decide_eq_true ⟨hkept, hhalf⟩
            have hli := zLi_b hA hi6 (show (x : Int) < A 4 by omega)
            have hll : (zLs A i ++ zLx A i x).length < 144 := by
              rw [List.length_append]
              have := zLs_len hA i
              have := zLx_len (A := A) (ar := i) x
              omega
            have hx1 : zLx A i (x + 1) = zLx A i x ++ [zLi A i x] := by
              show zLx A i x ++ _ = _
              rw [hz, if_pos rfl]
            refine zc1 ?_
            simp only [rT_r, Int.reduceToNat, e13, hm (13 + i) (by omega), hm 4 (by omega), hG.1, hli.1, Int.toNat_natCast]
            refine ⟨⟨by omega, by omega⟩, ⟨by omega, by omega⟩, ?_⟩
            rintro _ rfl
            simp only [rT_w18, rT_r, Int.reduceToNat, e25, hm (25 + i) (by omega), hm 4 (by omega), hG.1, hli.2.1, Int.toNat_natCast]
            refine ⟨⟨by omega, by omega⟩, ⟨by omega, by omega⟩, ?_⟩
            rintro _ rfl
            simp only [rT_w19, rT_r, Int.reduceToNat, hm 62 (by omega), hG.1, Int.toNat_natCast]
            refine pX12_weightOf hA (fun j hj => by rw [rT_r.2.2.2.2]; exact hm j hj) hi6 ⟨by omega, by omega⟩ ht (by omega) (fun w'' S'' => ⟨⟨by omega, by omega⟩, ?_⟩)
            rw [rT_rW]
            rintro _ rfl
            simp only [rT_w20, rT_r, hG.1]
            rintro _ rfl
            rw [rT_w0]
            refine hstep (by omega) _ ⟨_, _, _, _, _, _, rfl, ?_, ?_, ?_⟩
            · rw [hx1, ← List.append_assoc]
              refine ⟨?_, by rw [st_ne (by decide)]; exact hG.2.1, fun j h1 h2 => by rw [st_ne h1]; exact hG.2.2 j h1 h2⟩
              rw [st_at, List.length_append (bs := [zLi A i x])]
              simp
            · rw [hx1, ← List.append_assoc]
              exact zRw_snoc hR
            · rw [hx1, ← List.append_assoc]
              exact zRw3_snoc (z := zLi A i x) hR3
          · rw [rT_rW]
            refine zc0 (hskip _ _ ?_)
            unfold zLb
            exact decide_eq_false (fun h => hkept h.1)
        have hne : A (37 + i) = 1 → gT (A 1) (A 2) (A 3) x (A (49 + i)) ≠ x := by
          intro h1 e
          have hv0 := gf.2.2.1 e
          rcases harc.2.2.1 with h | h
          · omega
          · have h2 := h.2
            rw [hv0] at h2
            have : gO (A 1) (A 2) (A 3) 0 = 1 := by
              unfold gO
              show ((gOf (A 1) (A 2) (A 3) 0 13 0 1).getD 0) = 1
              unfold gOf
              rw [if_pos rfl]
              rfl
            omega
        refine ⟨⟨by omega, by omega⟩, ?_, fun c => hgo (fun h => absurd h c), fun c => ⟨⟨by omega, by omega⟩, ⟨by omega, by omega⟩, fun c2 => hskip _ _ ?_, fun c2 => hgo (fun _ => ?_)⟩⟩
        · rcases harc.2.2.1 with h | h
          · rw [h]; decide
          · rw [h.1]; decide
        · unfold zLb
          exact decide_eq_false (fun h => by have := h.2 c; omega)
        · have := hne c
          omega
