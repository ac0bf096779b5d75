/-! CALLS: deeds, images, trays, the tape -/
theorem zrun_ext {w c d : Nat → Int} : ∀ (n i : Nat) (s : List Int), (∀ j, i ≤ j → j < i + n → d j = c j) → zrun w d i n s = zrun w c i n s
  | 0, _, _, _ => rfl
  | n + 1, i, s, h => by
    unfold zrun
    rw [h i (Nat.le_refl _) (by omega)]
    exact zrun_ext n (i + 1) _ (fun j h1 h2 => h j (by omega) (by omega))
theorem zE_W {A B : Nat → Int} (h : zE A B) {ar : Nat} (har : ar < 12) {x t : Int} : zW B ar x t = zW A ar x t := by
  funext j
  unfold zW
  rw [h (13 + ar) (by omega), h (25 + ar) (by omega)]
theorem zE_Law {A B : Nat → Int} (h : zE A B) {lw ar : Nat} {ty : Bool} (hl : lw < 2) (k : zLawOK A lw ty) (h1 : A (7 + lw) = 1) (har : ar < 12) {x t : Int} : zLaw B lw ar x t = zLaw A lw ar x t := by
  rcases k with k | ⟨_, fr, many, k2, k3, k4, k5, k6, k7⟩
  · omega
  · unfold zLaw
    rw [zE_W h har, h (9 + lw) (by omega), h (11 + lw) (by omega), k2, k3, Int.toNat_natCast, Int.toNat_natCast]
    rw [zrun_ext many fr [] (fun j h1 h2 => h (205 + j) (by omega))]
theorem zE_Kept {A B : Nat → Int} (h : zE A B) (hA : wA A) {ar : Nat} (har : ar < 12) {x t : Int} : zKept B ar x t ↔ zKept A ar x t := by
  have hl := hA.2.2.2.2.2.2.2.2.1
  unfold zKept
  rw [h 7 (by decide)]
  by_cases c : A 7 = 1
  · rw [zE_Law h (lw := 0) (by decide) hl c har]
  · have c0 : A 7 = 0 := by
      rcases hl with e | e
      · exact e
      · exact absurd e.1 c
    exact ⟨fun _ => Or.inl c0, fun _ => Or.inl c0⟩
theorem zE_Wt {A B : Nat → Int} (h : zE A B) (hA : wA A) {ar : Nat} (har : ar < 12) {x t : Int} : zWt B ar x t = zWt A ar x t := by
  have hl := hA.2.2.2.2.2.2.2.2.2
  unfold zWt
  rw [h 8 (by decide)]
  by_cases c : A 8 = 1
  · rw [if_pos c, if_pos c, zE_Law h (lw := 1) (by decide) hl c har]
  · rw [if_neg c, if_neg c]
theorem zE_Lb {A B : Nat → Int} (h : zE A B) (hA : wA A) {ar x : Nat} (har : ar < 12) : zLb B ar x = zLb A ar x := by
  unfold zLb
  rw [h 62 (by decide), h 1 (by decide), h 2 (by decide), h 3 (by decide), h (37 + ar) (by omega), h (49 + ar) (by omega)]
  have e : (B 7 = 0 ∨ zLaw B 0 ar x (A 62) = 1) ↔ (A 7 = 0 ∨ zLaw A 0 ar x (A 62) = 1) := zE_Kept h hA har
  exact decide_eq_decide.mpr (and_congr_left (fun _ => e))
theorem zE_Lx {A B : Nat → Int} (h : zE A B) (hA : wA A) {ar : Nat} (har : ar < 12) : ∀ x, zLx B ar x = zLx A ar x
  | 0 => rfl
  | x + 1 => by
    unfold zLx
    rw [zE_Lx h hA har x, zE_Lb h hA har]
    unfold zLi
    rw [h (13 + ar) (by omega), h (25 + ar) (by omega), h (49 + ar) (by omega), h 4 (by decide), h 1 (by decide), h 2 (by decide), h 3 (by decide)]
theorem zE_Ls {A B : Nat → Int} (h : zE A B) (hA : wA A) : ∀ ar, ar ≤ 12 → zLs B ar = zLs A ar
  | 0, _ => rfl
  | ar + 1, ha => by
    unfold zLs
    rw [zE_Ls h hA ar (by omega), h 61 (by decide), h 4 (by decide), zE_Lx h hA (by omega)]
theorem zE_Lk {A B : Nat → Int} (h : zE A B) (hA : wA A) : zLk B = zLk A := by
  unfold zLk
  rw [h 6 (by decide)]
  exact zE_Ls h hA _ (by have := hA.2.2.1; omega)
theorem zE_N {A B : Nat → Int} (h : zE A B) (hA : wA A) : zNn B = zNn A ∧ zFa B = zFa A ∧ zFb B = zFb A ∧ zFr B = zFr A ∧ zFx B = zFx A := by
  refine ⟨?_, ?_, ?_, ?_, ?_⟩
  · unfold zNn
    rw [h 5 (by decide), h 4 (by decide)]
  all_goals (funext i; simp only [zFa, zFb, zFr, zFx, zE_Lk h hA])
theorem zE_K {A B : Nat → Int} (h : zE A B) (hA : wA A) {m : aj_M} {p : List Nat} (k : wK m p A) : wK m p B := by
  have h6 := hA.2.2.1
  rcases k with k | ⟨k1, k2, k3⟩
  · exact Or.inl k
  · refine Or.inr ⟨k1, k2, fun ar har => ?_⟩
    rw [h 6 (by decide)] at har
    obtain ⟨B', e1, e2, e3⟩ := k3 ar har
    refine ⟨B', e1, e2, fun x hx => ?_⟩
    rw [h 4 (by decide)] at hx
    rw [zE_Kept h hA (by omega)]
    exact e3 x hx
theorem zE_Nt {A B : Nat → Int} (h : zE A B) (hA : wA A) {m : aj_M} (k : zNtC m A) : zNtC m B := by
  obtain ⟨e1, e2, e3, e4, e5⟩ := zE_N h hA
  obtain ⟨k1, k2, k3, k4⟩ := k
  unfold zNtC
  rw [zE_Lk h hA, e1, e2, e3, e4, e5]
  refine ⟨k1, k2, ?_, k4⟩
  rcases k3 with k3 | ⟨k3, k5⟩
  · exact Or.inl k3
  · refine Or.inr ⟨k3, fun l hl => ?_⟩
    have hb := zLk_b hA hl
    have h6 := hA.2.2.1
    rw [k5 l hl, h 62 (by decide), zE_Wt h hA (by omega)]
theorem zE_row {A B : Nat → Int} (h : zE A B) {i : Nat} (hi : i < 10) : zE (zRow A i) (zRow B i) := fun j hj => by
  unfold zRow
  by_cases c : 49 ≤ j ∧ j < 63
  · rw [if_pos c, if_pos c, h _ (by omega)]
  · rw [if_neg c, if_neg c, h j hj]
theorem zE_HA {A B : Nat → Int} (h : zE A B) (k : zHA A) : zHA B := by
  obtain ⟨k1, k2⟩ := k
  unfold zHA
  rw [h 63 (by decide)]
  exact ⟨k1, fun i hi => zE_A (zE_row h (by omega)) (k2 i hi)⟩
theorem zE_HC {A B : Nat → Int} (h : zE A B) (hH : zHA A) {m : aj_M} (k : zHC m A) : zHC m B := by
  obtain ⟨nx, k1, k2, k3, k4⟩ := k
  have hb := hH.1
  refine ⟨nx, k1, k2, by rw [h 63 (by decide)]; exact k3, fun i hi => ?_⟩
  rw [h 63 (by decide)] at hi ⊢
  exact wS_ext (fun j hj => zE_row h (by omega) j (by omega)) (hH.2 i hi).2.2.1.2 (k4 i hi)
section CLD
variable {f : Nat} {m : aj_M} {X : aj_M → Prop}
theorem zImg_e {A B : Nat → Int} (h : ∀ j, 1105 ≤ j → B j = A j) {i : Nat} : zImg B i = zImg A i := by
  funext j
  exact h _ (by omega)
theorem dd_inv {m1 m2 : aj_M} {A A' S N : Nat → Int} {V : Nat → Nat → Int} {I : Nat → Bool} {T : Nat → Int} {n : Nat} {fk fa : Int} (P : PI A S N V I T n fk fa) (C : CI m A S N V I T n fk fa) (R : RI m A S N V I T n fk fa) (hA' : wA A') (hH' : zHA A') (ag : zAg A A') (him : ∀ j, 1105 ≤ j → A' j = A j) (cd : zCd m m1 A') (rd : rDd m1 m2 A') : gInv m2 := by
  obtain ⟨p1, p2, p3, p4, p5, p6, p7, p8⟩ := P
  obtain ⟨⟨c1, c2, c3, c4, c5, c6⟩, ⟨c7, c7'⟩, c8, c9, c10, c11⟩ := C
  obtain ⟨z, z0, z12, zS, zH⟩ := cd
  have of : ∀ p, p ∉ zDlp → m1 p = m p := z
  have hI : ∀ i, zImg A' i = zImg A i := fun i => zImg_e him
  have C1 : CI m1 A' S N V I T n fk fa := by
    refine ⟨⟨zH, ?_, tC_off4 c3 (fun t ht => ?_), ⟨by rw [of _ (by decide)]; exact c4.1, by rw [of _ (by decide)]; exact c4.2⟩, by rw [of _ (by decide)]; exact c5, by rw [of _ (by decide)]; exact c6⟩, ⟨zAg_P ag p1.2.2.1.2 (wP_zo c7 (fun r hr => of r (by
      have q : ∀ r ∈ zcpl [1, 0], r ∉ zDlp := by decide
      exact q r hr))), zAg_K ag p1.2.2.1.2 (wK_off c7' (of _ (by decide)) (of _ (by decide)))⟩, zS, cHu_off c9 (of _ (by decide)) (of _ (by decide)), ⟨by rw [of _ (by decide)]; exact c10.1, by rw [of [12, 3, 8, 0] (by decide)]; exact c10.2.1, Or.inl z12⟩, by rw [of [12, 9, 0] (by decide)]; exact c11⟩
    · have := zIC_off c2 (fun i hi p hp => of p (by
        have q : ∀ i < 2, ∀ p ∈ zIl i, p ∉ zDlp := by decide
        exact q i hi p hp))
      intro i hi
      rw [hI i]
      exact this i hi
    · have : t = 0 ∨ t = 1 ∨ t = 2 ∨ t = 3 := by omega
      rcases this with rfl | rfl | rfl | rfl <;> exact ⟨of _ (by decide), of _ (by decide)⟩
  have R1 : RI m1 A S N V I T n fk fa := RI_k R (kR_zo z (by decide))
  have P1 : PI A' S N V I T n fk fa := ⟨hA', hH', fun i hi e => by rw [hI i]; exact p3 i hi e, p4, p5, p6, p7, p8⟩
  refine ⟨A', S, N, V, I, T, n, fk, fa, P1, CI_off C1 (kC_zo rd.1 (by decide)), ?_⟩
  obtain ⟨r1, r2, r3, r4, r5, r6⟩ := R1
  have o : ∀ p, p ∉ ([[1], [27, 1], [1, 1]] : List (List Nat)) → m2 p = m1 p := rd.1
  refine ⟨rd.2.2, ?_, ?_, ?_, by rw [rd.2.1 13 (by decide) (by decide) (by decide)]; exact r5, by rw [rd.2.1 14 (by decide) (by decide) (by decide)]; exact r6⟩
  · unfold zIR
    rw [o [2, 1] (by decide)]
    exact r2
  · unfold tR
    rw [o [44, 1] (by decide), o [45, 1] (by decide), o [46, 1] (by decide)]
    exact r3
  · unfold zTpR
    rw [rd.2.1 5 (by decide) (by decide) (by decide), o [3, 1] (by decide)]
    exact r4
theorem dd_no {A B : Nat → Int} (hA : wA A) (hH : zHA A) (sg : zSg A B) (hB : wA B) : wA (zNoA A B) ∧ zHA (zNoA A B) ∧ zAg A (zNoA A B) ∧ ∀ j, 1105 ≤ j → zNoA A B j = A j := by
  have hb : 0 ≤ B 63 ∧ B 63 ≤ 10 := by rw [sg 63 (by omega)]; exact hH.1
  refine ⟨wA_ext (fun j hj => zNt_off hb hj) hB, zHA_nt (zSg_HA sg hH) (zSg_Ag sg) hA (fun k _ => rfl), fun j hj => ?_, fun j hj => ?_⟩
  · show zNt _ B j = A j
    rw [zNt_off hb (by omega), sg j (by omega)]
  · show zNt _ B j = A j
    rw [zNt_off hb (by omega), sg j (by omega)]
/-- what the class lays aside of its setting -/
theorem CI_30 {m1 : aj_M} {A S N : Nat → Int} {V : Nat → Nat → Int} {I : Nat → Bool} {T : Nat → Int} {n : Nat} {fk fa : Int} (C : CI m A S N V I T n fk fa) (z : zo [[3, 0], [0, 3, 0]] m m1) : CI m1 A S N V I T n fk fa := CI_off C (fun p hp => z p (by
  have q : ∀ p ∈ cAl, p ∉ [[3, 0], [0, 3, 0]] := by decide
  exact q p hp))
theorem cl_turn (hf : 10000 ≤ f) (H : gInv m) (hX : ∀ m', gInv m' → X m') {v w : Int} (hv : rI v) (hw : rI w) (G : Int → aj_M → Prop) (hG : ∀ z m1, wX12_turn f (fun z2 m2 => rI z ∧ rI z2 ∧ (z = z2 → X m2) ∧ (¬ z = z2 → False)) [1] v w m1 → G z m1) : wX11_turn f G [0] v w m := by
  obtain ⟨A, S, N, V, I, T, n, fk, fa, P, C, R⟩ := H
  refine pX11_turn P.1 P.2.1 C.2.1.1 C.2.2.1 C.1.1 hv hw (fun c m1 z => hG _ _ ?_) (fun c m1 cd => hG _ _ ?_)
  · have R1 := RI_k R (kR_zo z (by decide))
    refine pX12_turn (by omega) P.1 P.2.1 R1.1 hv hw (fun _ => q2 rfl ?_ (hX _ (inv_q P (CI_30 C z) kC_rZ (RI_rZ R1)))) (fun x => absurd x c)
    unfold zWht
    split
    · split <;> decide
    · decide
  · have R1 := RI_k R (kR_zo cd.1 (by decide))
    obtain ⟨⟨a1, a2⟩, a3, a4⟩ := zWht_0 c
    have h6 := P.1.2.2.1
    have h4 := gOK_n P.1.1
    have hT := (zA_turn P.1 c).1
    obtain ⟨d1, d2, d3, d4⟩ := dd_no P.1 P.2.1 (zSg_tup (A := A) (j := 49 + v.toNat) (v := w) (by omega)) hT
    refine pX12_turn (by omega) P.1 P.2.1 R1.1 hv hw (fun x => absurd c x) (fun _ m2 rd => q2 rfl ?_ (hX _ (dd_inv P C R d1 d2 d3 d4 cd rd)))
    have := (zA_same P.1 v.toNat (by omega)).1
    exact ⟨by omega, by omega⟩
theorem cl_cut (hf : 10000 ≤ f) (H : gInv m) (hX : ∀ m', gInv m' → X m') {v : Int} (hv : rI v) (G : Int → aj_M → Prop) (hG : ∀ z m1, wX12_cut f (fun z2 m2 => rI z ∧ rI z2 ∧ (z = z2 → X m2) ∧ (¬ z = z2 → False)) [1] v m1 → G z m1) : wX11_cut f G [0] v m := by
  obtain ⟨A, S, N, V, I, T, n, fk, fa, P, C, R⟩ := H
  refine pX11_cut P.1 P.2.1 C.2.1.1 C.2.2.1 C.1.1 hv (fun c m1 z => hG _ _ ?_) (fun c1 c2 m1 cd => hG _ _ ?_)
  · have R1 := RI_k R (kR_zo z (by decide))
    exact pX12_cut (by omega) P.1 P.2.1 R1.1 hv (fun _ => q2 rfl (by decide) (hX _ (inv_q P (CI_30 C z) kC_rZ (RI_rZ R1)))) (fun x y => absurd ⟨x, y⟩ c)
  · have R1 := RI_k R (kR_zo cd.1 (by decide))
    have hT := (zA_cut P.1 ⟨c1, c2⟩).1
    obtain ⟨d1, d2, d3, d4⟩ := dd_no P.1 P.2.1 (zSg_tup (A := A) (j := 61) (by omega)) hT
    refine pX12_cut (by omega) P.1 P.2.1 R1.1 hv (fun x => absurd ⟨c1, c2⟩ x) (fun _ _ m2 rd => q2 rfl ?_ (hX _ (dd_inv P C R d1 d2 d3 d4 cd rd)))
    split <;> decide
theorem cl_twist (hf : 10000 ≤ f) (H : gInv m) (hX : ∀ m', gInv m' → X m') {v : Int} (hv : rI v) (G : Int → aj_M → Prop) (hG : ∀ z m1, wX12_twist f (fun z2 m2 => rI z ∧ rI z2 ∧ (z = z2 → X m2) ∧ (¬ z = z2 → False)) [1] v m1 → G z m1) : wX11_twist f G [0] v m := by
  obtain ⟨A, S, N, V, I, T, n, fk, fa, P, C, R⟩ := H
  refine pX11_twist P.1 P.2.1 C.2.2.1 C.1.1 hv (fun c m1 z => hG _ _ ?_) (fun c m1 cd => hG _ _ ?_)
  · have R1 := RI_k R (kR_zo z (by decide))
    exact pX12_twist (by omega) P.1 P.2.1 R1.1 hv (fun _ => q2 rfl (by decide) (hX _ (inv_q P (CI_30 C z) kC_rZ (RI_rZ R1)))) (fun x => absurd x c)
  · have R1 := RI_k R (kR_zo cd.1 (by decide))
    have hT := (zA_twist P.1 c).1
    obtain ⟨d1, d2, d3, d4⟩ := dd_no P.1 P.2.1 (zSg_tup (A := A) (j := 62) (v := v) (by omega)) hT
    refine pX12_twist (by omega) P.1 P.2.1 R1.1 hv (fun x => absurd c x) (fun _ m2 rd => q2 rfl ?_ (hX _ (dd_inv P C R d1 d2 d3 d4 cd rd)))
    have := P.1.2.2.2.2.2.1
    exact ⟨by omega, by omega⟩
theorem cl_undo (hf : 10000 ≤ f) (H : gInv m) (hX : ∀ m', gInv m' → X m') {v : Int} (hv : rI v) (G : Int → aj_M → Prop) (hG : ∀ z m1, wX12_undo f (fun z2 m2 => rI z ∧ rI z2 ∧ (z = z2 → X m2) ∧ (¬ z = z2 → False)) [1] v m1 → G z m1) : wX11_undo f G [0] v m := by
  obtain ⟨A, S, N, V, I, T, n, fk, fa, P, C, R⟩ := H
  have h63 := P.2.1.1
  refine pX11_undo P.1 P.2.1 C.1.1 hv (fun c => hG _ _ ?_) (fun c1 c2 m1 cd => hG _ _ ?_)
  · exact pX12_undo (by omega) P.2.1 R.1 hv (fun _ => q2 rfl (by decide) (hX _ (inv_q P C kC_rZ (RI_rZ R)))) (fun x y => absurd ⟨x, y⟩ c)
  · have R1 := RI_k R (kR_zo cd.1 (by decide))
    obtain ⟨d1, d2, d3⟩ := zUn_A P.2.1 c1 c2
    refine pX12_undo (by omega) P.2.1 R1.1 hv (fun x => absurd ⟨c1, c2⟩ x) (fun _ _ m2 rd => q2 rfl ⟨by omega, by omega⟩ (hX _ (dd_inv P C R d1 d2 d3 (fun j hj => d3 j (by omega)) cd rd)))
theorem cl_perform (hf : 10000 ≤ f) (H : gInv m) (hX : ∀ m', gInv m' → X m') {v : Int} (hv : rI v) (G : Int → aj_M → Prop) (hG : ∀ z m1, wX12_perform f (fun z2 m2 => rI z ∧ rI z2 ∧ (z = z2 → X m2) ∧ (¬ z = z2 → False)) [1] v m1 → G z m1) : wX11_perform f G [0] v m := by
  obtain ⟨A, S, N, V, I, T, n, fk, fa, P, C, R⟩ := H
  have un : ∀ t t' : Nat, v = t → v = t' → t' = t := fun t t' a b => by omega
  have tOk : ∀ t : Nat, v = t → t < 4 → 0 ≤ N t → tA N v = 0 := fun t e ht hn => by
    rw [tA, if_pos ⟨by omega, by omega⟩, e, Int.toNat_natCast, if_pos hn]
  refine pX11_perform (by omega) P.1 P.2.1 C.2.1.1 C.2.2.1 C.1.1 P.2.2.2.1 C.1.2.2.1 hv (fun c => hG _ _ ?_) (fun t et ht hn c m1 z s => hG _ _ ?_) (fun t et ht hn c m1 cd => hG _ _ ?_)
  · exact pX12_perform (by omega) P.1 P.2.1 R.1 P.2.2.2.1 R.2.2.1 hv (fun _ => q2 rfl tA_r (hX _ (inv_q P C kC_rZ (RI_rZ R)))) (fun t e h1 h2 => absurd (tOk t e h1 h2) c) (fun t e h1 h2 => absurd (tOk t e h1 h2) c)
  · have R1 := RI_k R (kR_zo z (by decide))
    have C1 : CI m1 A S N V I T n fk fa := by
      obtain ⟨c1, c2, c3, c4, c5, c6⟩ := C
      exact ⟨cRest_off c1 (fun p hp => z p (by
        have q : ∀ p ∈ cRl, p ∉ ([[2, 0], [0, 2, 0], [3, 0], [0, 3, 0]] : List (List Nat)) := by decide
        exact q p hp)), ⟨wP_zo c2.1 (fun r hr => z r (by
        have q : ∀ p ∈ zcpl [1, 0], p ∉ ([[2, 0], [0, 2, 0], [3, 0], [0, 3, 0]] : List (List Nat)) := by decide
        exact q r hr)), wK_off c2.2 (z _ (by decide)) (z _ (by decide))⟩, s, cHu_off c4 (z _ (by decide)) (z _ (by decide)), cNet_off c5 (fun p hp => z p (by
        have q : ∀ p ∈ cNl, p ∉ ([[2, 0], [0, 2, 0], [3, 0], [0, 3, 0]] : List (List Nat)) := by decide
        exact q p hp)), by rw [z [12, 9, 0] (by decide)]; exact c6⟩
    refine pX12_perform (by omega) P.1 P.2.1 R1.1 P.2.2.2.1 R1.2.2.1 hv (fun x => absurd (tOk t et ht hn) x) (fun t' e' _ _ _ m2 rd => q2 rfl (by decide) (hX _ ?_)) (fun t' e' h1 h2 c' => ?_)
    · refine inv_q P C1 (kC_zo rd.1 (by decide)) ?_
      obtain ⟨r1, r2, r3, r4, r5, r6⟩ := R1
      refine ⟨rd.2.2, ?_, ?_, ?_, by rw [rd.2.1 13 (by decide) (by decide) (by decide)]; exact r5, by rw [rd.2.1 14 (by decide) (by decide) (by decide)]; exact r6⟩
      · unfold zIR
        rw [rd.1 [2, 1] (by decide)]
        exact r2
      · unfold tR
        rw [rd.1 [44, 1] (by decide), rd.1 [45, 1] (by decide), rd.1 [46, 1] (by decide)]
        exact r3
      · unfold zTpR
        rw [rd.2.1 5 (by decide) (by decide) (by decide), rd.1 [3, 1] (by decide)]
        exact r4
    · have e := un t t' et e'
      subst e
      exact absurd c c'
  · have R1 := RI_k R (kR_zo cd.1 (by decide))
    have hb := tO_b P.2.2.2.1 ht
    obtain ⟨b1, b2, b3, b4, b5, b6⟩ := zPf_b (U := V t) (N t).toNat 0 A P.1
    obtain ⟨d1, d2, d3, d4⟩ := dd_no P.1 P.2.1 b4 b3
    refine pX12_perform (by omega) P.1 P.2.1 R1.1 P.2.2.2.1 R1.2.2.1 hv (fun x => absurd (tOk t et ht hn) x) (fun t' e' h1 h2 c' => ?_) (fun t' e' _ _ _ m2 rd => ?_)
    · have e := un t t' et e'
      subst e
      exact absurd c' c
    · have e := un t t' et e'
      subst e
      exact q2 rfl ⟨by omega, by omega⟩ (hX _ (dd_inv P C R d1 d2 d3 d4 cd rd))
theorem cl_day (hf : 10000 ≤ f) (H : gInv m) (hX : ∀ m', gInv m' → X m') {v w : Int} (hv : rI v) (hw : rI w) (G : Int → aj_M → Prop) (hG : ∀ z m1, wX12_day f (fun z2 m2 => rI z ∧ rI z2 ∧ (z = z2 → X m2) ∧ (¬ z = z2 → False)) [1] v w m1 → G z m1) : wX11_day f G [0] v w m := by
  obtain ⟨A, S, N, V, I, T, n, fk, fa, P, C, R⟩ := H
  refine pX11_day (by omega) P.1 P.2.1 C.2.1.1 C.2.2.1 C.1.1 hw (fun c => hG _ _ ?_) (fun a1 a2 c m1 z s => hG _ _ ?_) (fun a1 a2 c m1 cd => hG _ _ ?_)
  · exact pX12_day (by omega) P.1 P.2.1 R.1 hw (fun _ => q2 rfl (by decide) (hX _ (inv_q P C kC_rZ (RI_rZ R)))) (fun x y => absurd ⟨x, y⟩ c) (fun x y => absurd ⟨x, y⟩ c)
  · have R1 := RI_k R (kR_zo z (by decide))
    have C1 : CI m1 A S N V I T n fk fa := by
      obtain ⟨c1, c2, c3, c4, c5, c6⟩ := C
      exact ⟨cRest_off c1 (fun p hp => z p (by
        have q : ∀ p ∈ cRl, p ∉ ([[2, 0], [0, 2, 0], [3, 0], [0, 3, 0]] : List (List Nat)) := by decide
        exact q p hp)), ⟨wP_zo c2.1 (fun r hr => z r (by
        have q : ∀ p ∈ zcpl [1, 0], p ∉ ([[2, 0], [0, 2, 0], [3, 0], [0, 3, 0]] : List (List Nat)) := by decide
        exact q r hr)), wK_off c2.2 (z _ (by decide)) (z _ (by decide))⟩, s, cHu_off c4 (z _ (by decide)) (z _ (by decide)), cNet_off c5 (fun p hp => z p (by
        have q : ∀ p ∈ cNl, p ∉ ([[2, 0], [0, 2, 0], [3, 0], [0, 3, 0]] : List (List Nat)) := by decide
        exact q p hp)), by rw [z [12, 9, 0] (by decide)]; exact c6⟩
    refine pX12_day (by omega) P.1 P.2.1 R1.1 hw (fun x => absurd ⟨a1, a2⟩ x) (fun _ _ _ m2 rd => q2 rfl (by decide) (hX _ ?_)) (fun _ _ c' => absurd c c')
    refine inv_q P C1 (kC_zo rd.1 (by decide)) ?_
    obtain ⟨r1, r2, r3, r4, r5, r6⟩ := R1
    refine ⟨rd.2.2, ?_, ?_, ?_, by rw [rd.2.1 13 (by decide) (by decide) (by decide)]; exact r5, by rw [rd.2.1 14 (by decide) (by decide) (by decide)]; exact r6⟩
    · unfold zIR
      rw [rd.1 [2, 1] (by decide)]
      exact r2
    · unfold tR
      rw [rd.1 [44, 1] (by decide), rd.1 [45, 1] (by decide), rd.1 [46, 1] (by decide)]
      exact r3
    · unfold zTpR
      rw [rd.2.1 5 (by decide) (by decide) (by decide), rd.1 [3, 1] (by decide)]
      exact r4
  · have R1 := RI_k R (kR_zo cd.1 (by decide))
    obtain ⟨b1, b2, b3, b4, b5⟩ := zDy_b w.toNat v 0 A P.1
    obtain ⟨d1, d2, d3, d4⟩ := dd_no P.1 P.2.1 b4 b3
    exact pX12_day (by omega) P.1 P.2.1 R1.1 hw (fun x => absurd ⟨a1, a2⟩ x) (fun _ _ c' => absurd c' c) (fun _ _ _ m2 rd => q2 rfl ⟨by omega, by omega⟩ (hX _ (dd_inv P C R d1 d2 d3 d4 cd rd)))
end CLD
