/-! CALLS: the tape, trays, images, the search -/
section CLT
variable {f : Nat} {m : aj_M} {X : aj_M → Prop}
def cR3 : List (List Nat) := zHl ++ ((List.range 2).flatMap (fun i => zIl i) ++ (List.range 4).flatMap (fun t => [[t, 7, 0], [0, t, 7, 0]]))
theorem t4 {P : Nat → Prop} (h0 : P 0) (h1 : P 1) (h2 : P 2) (h3 : P 3) : ∀ t, t < 4 → P t := fun t ht => by
  have : t = 0 ∨ t = 1 ∨ t = 2 ∨ t = 3 := by omega
  rcases this with rfl | rfl | rfl | rfl <;> assumption
theorem cl_feed (hf : 10000 ≤ f) (H : gInv m) (hX : ∀ m', gInv m' → X m') {a b c d e : Int} (G : Int → aj_M → Prop) (hG : ∀ z m1, wX12_feed f (fun z2 m2 => rI z ∧ rI z2 ∧ (z = z2 → X m2) ∧ (¬ z = z2 → False)) [1] a b c d e m1 → G z m1) : wX11_feed f G [0] a b c d e m := by
  obtain ⟨A, S, N, V, I, T, n, fk, fa, P, C, R⟩ := H
  have hn := P.2.2.2.2.2.1
  refine pX11_feed (by omega) hn C.1.2.2.2.1 (fun x => hG _ _ ?_) (fun x m1 z k t => hG _ _ ?_)
  · exact pX12_feed (by omega) hn R.2.2.2.1 (fun _ => q2 rfl (by decide) (hX _ (inv_q P C kC_rZ (RI_rZ R)))) (fun y => by omega)
  · have R1 := RI_k R (kR_zo z (by decide))
    refine pX12_feed (by omega) hn R1.2.2.2.1 (fun y => by omega) (fun _ m2 t2 => q2 rfl ⟨by omega, by omega⟩ (hX _ ?_))
    obtain ⟨⟨c1, c2, c3, c4, c5, c6⟩, ⟨c7, c7'⟩, c8, c9, c10, c11⟩ := C
    have C1 : CI m1 A S N V I (zFd T n a b c d e) (n + 20) fk fa := by
      refine ⟨⟨zHC_off c1 (fun p hp => z p ?_), zIC_off c2 (fun i hi p hp => z p ?_), tC_off4 c3 (t4 ⟨z _ (by decide), z _ (by decide)⟩ ⟨z _ (by decide), z _ (by decide)⟩ ⟨z _ (by decide), z _ (by decide)⟩ ⟨z _ (by decide), z _ (by decide)⟩), t, by rw [k 9 (by decide)]; exact c5, by rw [k 10 (by decide)]; exact c6⟩, ⟨wP_zo c7 (fun r hr => z r ?_), wK_off c7' (z _ (by decide)) (z _ (by decide))⟩, wS_off c8 (z _ (by decide)) (z _ (by decide)), cHu_off c9 (z _ (by decide)) (z _ (by decide)), cNet_off c10 (fun p hp => z p ?_), by rw [z [12, 9, 0] (by decide)]; exact c11⟩
      · have q : ∀ p ∈ zHl, p ∉ ([[0, 0], [0, 0, 0]] : List (List Nat)) := by decide
        exact q p hp
      · have q : ∀ i < 2, ∀ p ∈ zIl i, p ∉ ([[0, 0], [0, 0, 0]] : List (List Nat)) := by decide
        exact q i hi p hp
      · have q : ∀ p ∈ zcpl [1, 0], p ∉ ([[0, 0], [0, 0, 0]] : List (List Nat)) := by decide
        exact q r hr
      · have q : ∀ p ∈ cNl, p ∉ ([[0, 0], [0, 0, 0]] : List (List Nat)) := by decide
        exact q p hp
    obtain ⟨z2, k2, tp⟩ := t2
    have R2 := RI_rZ R1
    obtain ⟨p1, p2, p3, p4, p5, p6, p7, p8⟩ := P
    refine ⟨A, S, N, V, I, zFd T n a b c d e, n + 20, fk, fa, ⟨p1, p2, p3, p4, zFd_b p5, by omega, p7, p8⟩, CI_off C1 (kC_t kC_rZ (kC_zo z2 (by decide))), ?_⟩
    obtain ⟨r1, r2, r3, r4, r5, r6⟩ := R2
    refine ⟨by rw [z2 _ (by decide)]; exact r1, ?_, ?_, tp, by rw [k2 13 (by decide)]; exact r5, by rw [k2 14 (by decide)]; exact r6⟩
    · unfold zIR
      rw [z2 [2, 1] (by decide)]
      exact r2
    · unfold tR
      rw [z2 [44, 1] (by decide), z2 [45, 1] (by decide), z2 [46, 1] (by decide)]
      exact r3
theorem tN_r {v s n : Int} : rI (tN v s n) := by
  unfold tN
  split
  · split <;> decide
  · decide
/-- a tray is laid anew on both sides -/
theorem tr_inv {m1 m2 : aj_M} {A S N S' N' : Nat → Int} {V V' : Nat → Nat → Int} {I : Nat → Bool} {T : Nat → Int} {n : Nat} {fk fa : Int} {t : Nat} (ht : t < 4) (P : PI A S N V I T n fk fa) (C : CI m A S N V I T n fk fa) (R : RI m1 A S N V I T n fk fa) (hO : tO S' N' V') (z : zo [[t, 7, 0], [0, t, 7, 0]] m m1) (hC : tC m1 S' N' V') (z2 : zo [[44, 1], [45, 1], [46, 1]] (rZ m1) m2) (hR : tR m2 S' N' V') : gInv m2 := by
  obtain ⟨p1, p2, p3, p4, p5, p6, p7, p8⟩ := P
  obtain ⟨⟨c1, c2, c3, c4, c5, c6⟩, ⟨c7, c7'⟩, c8, c9, c10, c11⟩ := C
  have of : ∀ l : List (List Nat), (∀ p ∈ l, ∀ t < 4, p ∉ ([[t, 7, 0], [0, t, 7, 0]] : List (List Nat))) → ∀ p, p ∈ l → m1 p = m p := fun l hl p hp => z p (hl p hp t ht)
  have C1 : CI m1 A S' N' V' I T n fk fa := by
    have o1 := of [[0, 0], [0, 0, 0], [11, 1, 0], [1, 0], [2, 0], [0, 2, 0], [10, 0], [6, 10, 0], [12, 9, 0]] (by decide)
    refine ⟨⟨zHC_off c1 (of _ (by decide)), zIC_off c2 (fun i hi => ?_), hC, ⟨by rw [o1 _ (by decide)]; exact c4.1, by rw [o1 _ (by decide)]; exact c4.2⟩, by rw [o1 _ (by decide)]; exact c5, by rw [o1 _ (by decide)]; exact c6⟩, ⟨wP_zo c7 (of _ (by decide)), wK_off c7' (o1 _ (by decide)) (o1 _ (by decide))⟩, wS_off c8 (o1 _ (by decide)) (o1 _ (by decide)), cHu_off c9 (o1 _ (by decide)) (o1 _ (by decide)), cNet_off c10 (of _ (by decide)), by rw [o1 [12, 9, 0] (by decide)]; exact c11⟩
    have : i = 0 ∨ i = 1 := by omega
    rcases this with rfl | rfl
    · exact of _ (by decide)
    · exact of _ (by decide)
  refine ⟨A, S', N', V', I, T, n, fk, fa, ⟨p1, p2, p3, hO, p5, p6, p7, p8⟩, CI_off C1 (kC_t kC_rZ (kC_zo z2 (by decide))), ?_⟩
  obtain ⟨r1, r2, r3, r4, r5, r6⟩ := RI_rZ R
  refine ⟨by rw [z2 _ (by decide)]; exact r1, ?_, hR, ?_, by rw [z2 _ (by decide)]; exact r5, by rw [z2 _ (by decide)]; exact r6⟩
  · unfold zIR
    rw [z2 [2, 1] (by decide)]
    exact r2
  · unfold zTpR
    rw [z2 [1] (by decide), z2 [3, 1] (by decide)]
    exact r4
theorem kR_t7 {m1 : aj_M} {t : Nat} (ht : t < 4) (z : zo [[t, 7, 0], [0, t, 7, 0]] m m1) : kR m m1 := fun p hp => z p (by
  have q : ∀ p ∈ ([1] :: rAl), ∀ t < 4, p ∉ ([[t, 7, 0], [0, t, 7, 0]] : List (List Nat)) := by decide
  exact q p hp t ht)
theorem cl_numbers (hf : 10000 ≤ f) (H : gInv m) (hX : ∀ m', gInv m' → X m') {v s k : Int} (hv : rI v) (hs : rI s) (hk : rI k) (G : Int → aj_M → Prop) (hG : ∀ z m1, wX12_numbers f (fun z2 m2 => rI z ∧ rI z2 ∧ (z = z2 → X m2) ∧ (¬ z = z2 → False)) [1] v s k m1 → G z m1) : wX11_numbers f G [0] v s k m := by
  obtain ⟨A, S, N, V, I, T, n, fk, fa, P, C, R⟩ := H
  have ok : ∀ t : Nat, v = t → t < 4 → (0 ≤ s ∧ s ≤ 3) → (0 ≤ k ∧ k ≤ 40) → tN v s k = 0 := fun t e ht h1 h2 => by
    unfold tN
    rw [if_pos ⟨⟨by omega, by omega⟩, h1⟩, if_pos h2]
  refine pX11_numbers (by omega) C.1.2.2.1 hv hs hk (fun c => hG _ _ ?_) (fun t et ht h1 h2 m1 z tc => hG _ _ ?_)
  · exact pX12_numbers (by omega) P.2.2.2.1 R.2.2.1 hv hs hk (fun _ => q2 rfl tN_r (hX _ (inv_q P C kC_rZ (RI_rZ R)))) (fun t e ht h1 h2 => absurd (ok t e ht h1 h2) c)
  · have R1 := RI_k R (kR_t7 ht z)
    refine pX12_numbers (by omega) P.2.2.2.1 R1.2.2.1 hv hs hk (fun c => absurd (ok t et ht h1 h2) c) (fun t' e' ht' _ _ m2 z2 tr => ?_)
    have e : t' = t := by omega
    subst e
    exact q2 rfl (by decide) (hX _ (tr_inv ht P C R1 (tO_up P.2.2.2.1 h1 h2 (fun i hi => by decide)) z tc z2 tr))
theorem cl_write (hf : 10000 ≤ f) (H : gInv m) (hX : ∀ m', gInv m' → X m') {v i w : Int} (hv : rI v) (hi : rI i) (hw : rL w) (G : Int → aj_M → Prop) (hG : ∀ z m1, wX12_write f (fun z2 m2 => rL z ∧ rL z2 ∧ (z = z2 → X m2) ∧ (¬ z = z2 → False)) [1] v i w m1 → G z m1) : wX11_write f G [0] v i w m := by
  obtain ⟨A, S, N, V, I, T, n, fk, fa, P, C, R⟩ := H
  have tOk : ∀ t : Nat, v = t → t < 4 → 0 ≤ N t → tA N v = 0 := fun t e ht hn => by
    rw [tA, if_pos ⟨by omega, by omega⟩, e, Int.toNat_natCast, if_pos hn]
  have un : ∀ t t' : Nat, v = t → v = t' → t' = t := fun t t' a b => by omega
  refine pX11_write P.2.2.2.1 C.1.2.2.1 hv hi (fun c => hG _ _ ?_) (fun t et ht hn c => hG _ _ ?_) (fun t et ht hn j ej hj m1 z tc => hG _ _ ?_)
  · exact pX12_write P.2.2.2.1 R.2.2.1 hv hi (fun _ => q2L rfl (by have := tA_b (N := N) (v := v); exact ⟨by omega, by omega⟩) (hX _ (inv_q P C kC_rZ (RI_rZ R)))) (fun t e h1 h2 => absurd (tOk t e h1 h2) c) (fun t e h1 h2 => absurd (tOk t e h1 h2) c)
  · refine pX12_write P.2.2.2.1 R.2.2.1 hv hi (fun x => absurd (tOk t et ht hn) x) (fun t' e' h1 h2 x => q2L rfl (by decide) (hX _ (inv_q P C kC_rZ (RI_rZ R)))) (fun t' e' h1 h2 j ej hj => ?_)
    have e := un t t' et e'
    subst e
    exact absurd ⟨by omega, hj⟩ c
  · have R1 := RI_k R (kR_t7 ht z)
    refine pX12_write P.2.2.2.1 R1.2.2.1 hv hi (fun x => absurd (tOk t et ht hn) x) (fun t' e' h1 h2 x => ?_) (fun t' e' h1 h2 j' ej' hj' m2 z2 tr => ?_)
    · have e := un t t' et e'
      subst e
      exact absurd ⟨by omega, hj⟩ x
    · have e := un t t' et e'
      subst e
      have e2 : j' = j := by omega
      subst e2
      refine q2L rfl (tTr_rL hw) (hX _ (tr_inv ht P C R1 ?_ z tc z2 tr))
      have hb := tO_b P.2.2.2.1 ht
      have hs := tO_s P.2.2.2.1 ht hn
      have := tO_up (t := t') (s := S t') (n := N t') (R := tup (V t') j' (tTr (S t') w)) P.2.2.2.1 hs.1 ⟨hn, hb.2⟩ (fun q hq => by
        by_cases x : q = j'
        · rw [x, tup_s]; exact tTr_rL hw
        · rw [tup_o x]; exact hs.2 q hq)
      rwa [tup_id, tup_id] at this
theorem cl_twists (hf : 10000 ≤ f) (H : gInv m) (hX : ∀ m', gInv m' → X m') {v : Int} (hv : rI v) (G : Int → aj_M → Prop) (hG : ∀ z m1, wX12_twists f (fun z2 m2 => rI z ∧ rI z2 ∧ (z = z2 → X m2) ∧ (¬ z = z2 → False)) [1] v m1 → G z m1) : wX11_twists f G [0] v m := by
  obtain ⟨A, S, N, V, I, T, n, fk, fa, P, C, R⟩ := H
  refine pX11_twists (by omega) P.1 C.2.1.1 P.2.2.2.1 C.1.2.2.1 hv (fun m1 z => hG _ _ ?_)
  have R1 := RI_k R (kR_zo z (by decide))
  have C1 := CI_off C (kC_zo z (by decide))
  refine pX12_twists (by omega) P.1 (fun j _ => congrFun R1.1 j) P.2.2.2.1 R1.2.2.1 hv (fun m2 z2 => q2 rfl ?_ (hX _ (inv_q P C1 (kC_t kC_rZ (kC_zo z2 (by decide))) (RI_off (RI_rZ R1) (fun p hp => z2 p (by
    have q : ∀ p ∈ rAl, p ∉ rTwl := by decide
    exact q p hp)) (by rw [z2 _ (by decide)]) (by rw [z2 _ (by decide)]) (by rw [z2 _ (by decide)])))))
  have := tTs_b (A := A) (N := N) (V := V) (v := v)
  exact ⟨by omega, by omega⟩
theorem cl_weigh (hf : 10000 ≤ f) (H : gInv m) (hX : ∀ m', gInv m' → X m') {v : Int} (hv : rI v) (hr : ∀ A N : Nat → Int, ∀ V : Nat → Nat → Int, wA A → rI (tWe A (tTs A N V v))) (G : Int → aj_M → Prop) (hG : ∀ z m1, wX12_weigh f (fun z2 m2 => rI z ∧ rI z2 ∧ (z = z2 → X m2) ∧ (¬ z = z2 → False)) [1] v m1 → G z m1) : wX11_weigh f G [0] v m := by
  obtain ⟨A, S, N, V, I, T, n, fk, fa, P, C, R⟩ := H
  refine pX11_weigh (by omega) P.1 C.2.1.1 P.2.2.2.1 C.1.2.2.1 hv (fun m1 z => hG _ _ ?_)
  have R1 := RI_k R (kR_zo z (by decide))
  have C1 := CI_off C (kC_zo z (by decide))
  exact pX12_weigh (by omega) P.1 (fun j _ => congrFun R1.1 j) P.2.2.2.1 R1.2.2.1 hv (fun m2 z2 => q2 rfl (hr A N V P.1) (hX _ (inv_q P C1 (kC_t kC_rZ (kC_zo z2 (by decide))) (RI_off (RI_rZ R1) (fun p hp => z2 p (by
    have q : ∀ p ∈ rAl, p ∉ rMl := by decide
    exact q p hp)) (by rw [z2 _ (by decide)]) (by rw [z2 _ (by decide)]) (by rw [z2 _ (by decide)])))))
theorem cl_image (hf : 10000 ≤ f) (H : gInv m) (hX : ∀ m', gInv m' → X m') {v : Int} (hv : rI v) (G : Int → aj_M → Prop) (hG : ∀ z m1, wX12_image f (fun z2 m2 => rI z ∧ rI z2 ∧ (z = z2 → X m2) ∧ (¬ z = z2 → False)) [1] v m1 → G z m1) : wX11_image f G [0] v m := by
  obtain ⟨A, S, N, V, I, T, n, fk, fa, P, C, R⟩ := H
  refine pX11_image P.1 C.2.1.1 C.2.2.1 P.2.2.1 C.1.2.1 hv (fun c => hG _ _ ?_) (fun i ei hi m1 z ic => hG _ _ ?_)
  · exact pX12_image (by omega) R.1 hv (fun _ => q2 rfl (by decide) (hX _ (inv_q P C kC_rZ (RI_rZ R)))) (fun i e h => absurd ⟨by omega, by omega⟩ c)
  · have kr : kR m m1 := fun p hp => z p (by
      have q : ∀ p ∈ ([1] :: rAl), ∀ i < 2, p ∉ zIl i := by decide
      exact q p hp i hi)
    have R1 := RI_k R kr
    refine pX12_image (by omega) R1.1 hv (fun c => absurd ⟨by omega, by omega⟩ c) (fun i' e' h' => ?_)
    have e : i' = i := by omega
    subst e
    refine q2 rfl (by decide) (hX _ ?_)
    obtain ⟨p1, p2, p3, p4, p5, p6, p7, p8⟩ := P
    obtain ⟨⟨c1, c2, c3, c4, c5, c6⟩, ⟨c7, c7'⟩, c8, c9, c10, c11⟩ := C
    have ze := zIg_0 (A := A) (i := i')
    have of : ∀ l : List (List Nat), (∀ p ∈ l, ∀ i < 2, p ∉ zIl i) → ∀ p, p ∈ l → m1 p = m p := fun l hl p hp => z p (hl p hp i' hi)
    have o1 := of [[0, 0], [0, 0, 0], [11, 1, 0], [1, 0], [2, 0], [0, 2, 0], [10, 0], [6, 10, 0], [12, 9, 0], [0, 7, 0], [1, 7, 0], [2, 7, 0], [3, 7, 0], [0, 0, 7, 0], [0, 1, 7, 0], [0, 2, 7, 0], [0, 3, 7, 0]] (by decide)
    have C1 : CI m1 (zIg A i') S N V (zIu I i') T n fk fa := by
      refine ⟨⟨zE_HC ze p2 (zHC_off c1 (of _ (by decide))), ic, tC_off4 c3 (t4 ⟨o1 _ (by decide), o1 _ (by decide)⟩ ⟨o1 _ (by decide), o1 _ (by decide)⟩ ⟨o1 _ (by decide), o1 _ (by decide)⟩ ⟨o1 _ (by decide), o1 _ (by decide)⟩), ⟨by rw [o1 _ (by decide)]; exact c4.1, by rw [o1 _ (by decide)]; exact c4.2⟩, by rw [o1 _ (by decide)]; exact c5, by rw [o1 _ (by decide)]; exact c6⟩, ⟨zE_P ze p1 (wP_zo c7 (of _ (by decide))), zE_K ze p1 (wK_off c7' (o1 _ (by decide)) (o1 _ (by decide)))⟩, wS_ext (fun j hj => ze j (by omega)) p1.2.2.1.2 (wS_off c8 (o1 _ (by decide)) (o1 _ (by decide))), cHu_off c9 (o1 _ (by decide)) (o1 _ (by decide)), ?_, by rw [o1 [12, 9, 0] (by decide)]; exact c11⟩
      obtain ⟨d1, d2, d3⟩ := cNet_off c10 (of cNl (by decide))
      refine ⟨d1, d2, ?_⟩
      rcases d3 with d3 | d3
      · exact Or.inl d3
      · exact Or.inr ⟨d3.1, zE_Nt ze p1 d3.2⟩
    refine ⟨zIg A i', S, N, V, zIu I i', T, n, fk, fa, ⟨zE_A ze p1, zE_HA ze p2, zIA_u p3 p1 i', p4, p5, p6, p7, p8⟩, CI_off C1 (kC_zo (l := [[1], [1, 1], [2, 1]]) (fun p hp => ?_) (by decide)), ?_⟩
    · simp only [List.mem_cons, List.not_mem_nil, or_false, not_or] at hp
      rw [zu_off hp.2.2, zm_uro hp.2.1]
      exact zu_off hp.1
    · obtain ⟨r1, r2, r3, r4, r5, r6⟩ := RI_rZ R1
      have o : ∀ p, p ≠ [1, 1] → p ≠ [2, 1] → aj_u (aj_ur (rZ m1) [1, 1] (zIg A i')) [2, 1] i' 1 p = rZ m1 p := fun p a b => by rw [zu_off b, zm_uro a]
      refine ⟨by rw [zu_off (by decide), zm_urs], fun k hk => ?_, ?_, ?_, by rw [o _ (by decide) (by decide)]; exact r5, by rw [o _ (by decide) (by decide)]; exact r6⟩
      · rw [zu_tup]
        by_cases x : k = i'
        · rw [x, tup_s, zIu_s, if_pos rfl]
        · rw [tup_o x, zm_uro (by decide), zIu_o x]
          exact r2 k hk
      · unfold tR
        rw [o [44, 1] (by decide) (by decide), o [45, 1] (by decide) (by decide), o [46, 1] (by decide) (by decide)]
        exact r3
      · unfold zTpR
        rw [o [1] (by decide) (by decide), o [3, 1] (by decide) (by decide)]
        exact r4
/-- the class's state once its works is another -/
theorem cw_CI {m1 : aj_M} {A A' S N : Nat → Int} {V : Nat → Nat → Int} {I : Nat → Bool} {T T' : Nat → Int} {n n' : Nat} {fk fa fk' fa' : Int} (C : CI m A S N V I T n fk fa) (of : ∀ p, p ∈ ((List.range 2).flatMap (fun i => zIl i) ++ ((List.range 4).flatMap (fun t => [[t, 7, 0], [0, t, 7, 0]]) ++ [[10, 0], [6, 10, 0], [12, 9, 0], [3, 8, 0], [12, 3, 8, 0]])) → m1 p = m p) (hI : ∀ i, i < 2 → I i = true → zE (zImg A i) (zImg A' i) ∧ wA (zImg A i)) (e12 : m1 [0] 12 = 1) (hP : wP m1 [1, 0] A') (h10 : m1 [1, 0] 10 = -1) (hS : wS m1 [2, 0] A') (hH : zHC m1 A') (ht : zTpC m1 T' n') (h9 : m1 [0, 0] 9 = fk') (ha : m1 [0, 0] 10 = fa') : CI m1 A' S N V I T' n' fk' fa' := by
  obtain ⟨⟨c1, c2, c3, c4, c5, c6⟩, ⟨c7, c7'⟩, c8, c9, c10, c11⟩ := C
  refine ⟨⟨hH, ?_, tC_off4 c3 (t4 ⟨of _ (by decide), of _ (by decide)⟩ ⟨of _ (by decide), of _ (by decide)⟩ ⟨of _ (by decide), of _ (by decide)⟩ ⟨of _ (by decide), of _ (by decide)⟩), ht, h9, ha⟩, ⟨hP, Or.inl h10⟩, hS, cHu_off c9 (of _ (by decide)) (of _ (by decide)), ⟨by rw [of _ (by decide)]; exact c10.1, by rw [of [12, 3, 8, 0] (by decide)]; exact c10.2.1, Or.inl e12⟩, by rw [of [12, 9, 0] (by decide)]; exact c11⟩
  have h1 := zIC_off c2 (fun i hi p hp => of p (List.mem_append_left _ (List.mem_flatMap.mpr ⟨i, List.mem_range.mpr hi, hp⟩)))
  intro i hi
  obtain ⟨a1, a2⟩ := h1 i hi
  refine ⟨a1, fun e => ?_⟩
  obtain ⟨b1, b2⟩ := hI i hi e
  exact ⟨zE_P b1 b2 (a2 e).1, wS_ext (fun j hj => b1 j (by omega)) b2.2.2.1.2 (a2 e).2⟩
theorem cl_restore (hf : 10000 ≤ f) (H : gInv m) (hX : ∀ m', gInv m' → X m') {v : Int} (hv : rI v) (G : Int → aj_M → Prop) (hG : ∀ z m1, wX12_restore f (fun z2 m2 => rI z ∧ rI z2 ∧ (z = z2 → X m2) ∧ (¬ z = z2 → False)) [1] v m1 → G z m1) : wX11_restore f G [0] v m := by
  obtain ⟨A, S, N, V, I, T, n, fk, fa, P, C, R⟩ := H
  have un : ∀ t t' : Nat, v = t → v = t' → t' = t := fun t t' a b => by omega
  have hH : ∃ nx : Nat, nx < 10 ∧ m [5, 0] 1 = nx := by
    obtain ⟨nx, h1, h2, _⟩ := C.1.1
    exact ⟨nx, h1, h2⟩
  refine pX11_restore P.2.2.1 C.1.2.1 hH hv (fun c => hG _ _ ?_) (fun i ei hi e => hG _ _ ?_) (fun i ei hi e m1 z z0 z12 hP hS hC h10 => hG _ _ ?_)
  · exact pX12_restore (by omega) R.1 R.2.1 hv (fun _ => q2 rfl (by decide) (hX _ (inv_q P C kC_rZ (RI_rZ R)))) (fun i e h => absurd ⟨by omega, by omega⟩ c) (fun i e h => absurd ⟨by omega, by omega⟩ c)
  · refine pX12_restore (by omega) R.1 R.2.1 hv (fun x => absurd ⟨by omega, by omega⟩ x) (fun i' e' h' _ => q2 rfl (by decide) (hX _ (inv_q P C kC_rZ (RI_rZ R)))) (fun i' e' h' x => ?_)
    have := un i i' ei e'
    subst this
    rw [e] at x
    cases x
  · have R1 := RI_k R (kR_zo z (by decide))
    refine pX12_restore (by omega) R1.1 R1.2.1 hv (fun x => absurd ⟨by omega, by omega⟩ x) (fun i' e' h' x => ?_) (fun i' e' h' x => ?_)
    · have := un i i' ei e'
      subst this
      rw [e] at x
      cases x
    · have := un i i' ei e'
      subst this
      refine q2 rfl (by decide) (hX _ ?_)
      obtain ⟨d1, d2, d3⟩ := zRs_A hi P.2.2.1 e
      have hC4 := C.1.2.2.2
      have C1 : CI m1 (zRs A i') S N V I T n fk fa := cw_CI C (fun p hp => z p (by
        have q : ∀ p ∈ ((List.range 2).flatMap (fun i => zIl i) ++ ((List.range 4).flatMap (fun t => [[t, 7, 0], [0, t, 7, 0]]) ++ [[10, 0], [6, 10, 0], [12, 9, 0], [3, 8, 0], [12, 3, 8, 0]])), p ∉ zRl := by decide
        exact q p hp)) (fun k hk ek => ⟨zRs_i, P.2.2.1 k hk ek⟩) z12 hP h10 hS hC ⟨by rw [z _ (by decide)]; exact hC4.1.1, by rw [z _ (by decide)]; exact hC4.1.2⟩ (by rw [z _ (by decide)]; exact hC4.2.1) (by rw [z _ (by decide)]; exact hC4.2.2)
      obtain ⟨p1, p2, p3, p4, p5, p6, p7, p8⟩ := P
      refine ⟨zRs A i', S, N, V, I, T, n, fk, fa, ⟨d1, d2, d3, p4, p5, p6, p7, p8⟩, CI_off C1 (kC_zo (l := [[1], [1, 1]]) (fun p hp => ?_) (by decide)), ?_⟩
      · simp only [List.mem_cons, List.not_mem_nil, or_false, not_or] at hp
        rw [zm_uro hp.2]
        exact zu_off hp.1
      · obtain ⟨r1, r2, r3, r4, r5, r6⟩ := RI_rZ R1
        have o : ∀ p, p ≠ [1, 1] → aj_ur (rZ m1) [1, 1] (zRs A i') p = rZ m1 p := fun p a => zm_uro a
        refine ⟨zm_urs, ?_, ?_, ?_, by rw [o _ (by decide)]; exact r5, by rw [o _ (by decide)]; exact r6⟩
        · unfold zIR
          rw [o [2, 1] (by decide)]
          exact r2
        · unfold tR
          rw [o [44, 1] (by decide), o [45, 1] (by decide), o [46, 1] (by decide)]
          exact r3
        · unfold zTpR
          rw [o [1] (by decide), o [3, 1] (by decide)]
          exact r4
end CLT
