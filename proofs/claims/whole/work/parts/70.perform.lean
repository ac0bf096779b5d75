/-! PERFORM -/
def zPf (U : Nat → Int) : Nat → Nat → (Nat → Int) → Nat × (Nat → Int)
  | 0, i, A => (i, A)
  | k + 1, i, A => if zWhy A (U i) = 0 then zPf U k (i + 1) (zDid A (U i)) else (i, A)
theorem zPf_b {U : Nat → Int} : ∀ (k i : Nat) (A : Nat → Int), wA A → i ≤ (zPf U k i A).1 ∧ (zPf U k i A).1 ≤ i + k ∧ wA (zPf U k i A).2 ∧ zSg A (zPf U k i A).2 ∧ ((zPf U k i A).1 = i → (zPf U k i A).2 = A) ∧ ((zPf U k i A).1 < i + k → zWhy (zPf U k i A).2 (U (zPf U k i A).1) ≠ 0)
  | 0, i, A, hA => ⟨Nat.le_refl _, Nat.le_refl _, hA, zSg_rfl, fun _ => rfl, fun h => absurd h (Nat.lt_irrefl _)⟩
  | k + 1, i, A, hA => by
    unfold zPf
    by_cases c : zWhy A (U i) = 0
    · rw [if_pos c]
      obtain ⟨a1, a2, a3, a4, a5, a6⟩ := zPf_b (U := U) k (i + 1) (zDid A (U i)) (zA_did hA c).1
      exact ⟨by omega, by omega, a3, zSg_tr (zSg_did hA c) a4, fun e => by omega, fun e => a6 (by omega)⟩
    · rw [if_neg c]
      exact ⟨Nat.le_refl _, by show i ≤ i + (k + 1); omega, hA, zSg_rfl, fun _ => rfl, fun _ => c⟩
theorem zPd_P {m m' : aj_M} {s : List Nat} (hs : s = [2, 0] ∨ s = [4, 0]) (z : zo [s, 0 :: s] m m') {A : Nat → Int} (hP : wP m [1, 0] A) : wP m' [1, 0] A := by
  rcases hs with rfl | rfl
  · exact wP_of hP (fun j _ => by rw [z [1, 0] (by decide)]) (z _ (by decide)) (z _ (by decide)) (z _ (by decide)) (z _ (by decide)) (z _ (by decide)) (z _ (by decide)) (z _ (by decide)) (z _ (by decide))
  · exact wP_of hP (fun j _ => by rw [z [1, 0] (by decide)]) (z _ (by decide)) (z _ (by decide)) (z _ (by decide)) (z _ (by decide)) (z _ (by decide)) (z _ (by decide)) (z _ (by decide)) (z _ (by decide))
theorem zPd_t {m m' : aj_M} {s : List Nat} (hs : s = [2, 0] ∨ s = [4, 0]) (z : zo [s, 0 :: s] m m') {t : Nat} : m' [t, 7, 0] = m [t, 7, 0] ∧ m' [0, t, 7, 0] = m [0, t, 7, 0] := by
  rcases hs with rfl | rfl
  · exact ⟨z _ (by simp), z _ (by simp)⟩
  · exact ⟨z _ (by simp), z _ (by simp)⟩
theorem hX11_doA {f : Nat} {Φ : Int → aj_M → Prop} {m0 : aj_M} {A U : Nat → Int} {s : List Nat} {t n : Nat} (hs : s = [2, 0] ∨ s = [4, 0]) (hA : wA A) (hP : wP m0 [1, 0] A) (hn : m0 [t, 7, 0] 2 = n) (hn2 : n ≤ 40) (hU : ∀ i : Nat, i < n → m0 [0, t, 7, 0] i = U i ∧ rL (U i)) (h : ∀ m', zo [s, 0 :: s] m0 m' → wS m' s (zPf U n 0 A).2 → Φ ((zPf U n 0 A).1 : Nat) m') : ∀ (k i : Nat) (B : Nat → Int) (m : aj_M), i ≤ n → n - i < k → zPf U (n - i) i B = zPf U n 0 A → wA B → zSg A B → zo [s, 0 :: s] m0 m → wS m s B → hX11_doAll_2 f Φ k [0] [t, 7, 0] s (i : Int) m := by
  have h6 := hA.2.2.1
  have hne : 0 :: s ≠ s := by
    rcases hs with rfl | rfl <;> decide
  intro k
  induction k with
  | zero => intro i B m h1 h2; omega
  | succ k ih =>
    intro i B m h1 h2 e hB sg z w
    obtain ⟨t1, t2⟩ := zPd_t hs z (t := t)
    unfold hX11_doAll_2
    rw [t1, t2, hn]
    refine ⟨⟨by omega, by omega⟩, ⟨by omega, by omega⟩, fun c => ?_, fun c => ⟨⟨by omega, by omega⟩, ?_⟩⟩
    · have ei : i = n := by omega
      rw [ei, Nat.sub_self] at e
      have e : (n, B) = zPf U n 0 A := e
      have h := h m z
      rw [← e] at h
      exact h w
    · have hi : i < n := by omega
      have en : n - i = (n - (i + 1)) + 1 := by omega
      rw [en, zPf] at e
      rw [Int.toNat_natCast, (hU i hi).1]
      have hPB := zAg_P (zSg_Ag sg) h6.2 (zPd_P hs z hP)
      refine pX9_tryDeed hB hPB w hne (hU i hi).2 (fun c => ⟨zWhy_r, fun d => absurd d c, fun _ => ?_⟩) (fun c m1 z1 w1 => zb0 ?_)
      · rw [if_neg c] at e
        have h := h m z
        rw [← e] at h
        exact h w
      · rw [if_pos c] at e
        exact ih (i + 1) _ m1 (by omega) (by omega) e (zA_did hB c).1 (zSg_tr sg (zSg_did hB c)) (zo_t z z1) w1
theorem pX11_doAll {f : Nat} {Φ : Int → aj_M → Prop} {m : aj_M} {A : Nat → Int} {S N : Nat → Int} {V : Nat → Nat → Int} {s : List Nat} {t : Nat} (hf : 50 ≤ f) (hs : s = [2, 0] ∨ s = [4, 0]) (hA : wA A) (hP : wP m [1, 0] A) (hS : wS m s A) (hO : tO S N V) (hC : tC m S N V) (ht : t < 4) (hn : 0 ≤ N t) (h : ∀ m', zo [s, 0 :: s] m m' → wS m' s (zPf (V t) (N t).toNat 0 A).2 → Φ ((zPf (V t) (N t).toNat 0 A).1 : Nat) m') : wX11_doAll f Φ [0] [t, 7, 0] s m := by
  have hb := tO_b hO ht
  have hv := (tO_s hO ht hn).2
  have hc := hC t ht
  exact hX11_doA hs hA hP (n := (N t).toNat) (by rw [hc.1]; omega) (by omega) (fun i hi => ⟨(hc.2 hn).2 i (by omega), hv i (by omega)⟩) h f 0 A m (by omega) (by omega) rfl hA zSg_rfl (fun p _ => rfl) hS
theorem tC_off {m m' : aj_M} {S N : Nat → Int} {V : Nat → Nat → Int} (hC : tC m S N V) (h1 : ∀ t, m' [t, 7, 0] = m [t, 7, 0]) (h2 : ∀ t, m' [0, t, 7, 0] = m [0, t, 7, 0]) : tC m' S N V := by
  intro t ht
  rw [h1, h2]
  exact hC t ht
theorem pX11_perform {f : Nat} {Φ : Int → aj_M → Prop} {m : aj_M} {A : Nat → Int} {S N : Nat → Int} {V : Nat → Nat → Int} {v : Int} (hf : 50 ≤ f) (hA : wA A) (hH : zHA A) (hP : wP m [1, 0] A) (hS : wS m [2, 0] A) (hC : zHC m A) (hO : tO S N V) (hT : tC m S N V) (hv : rI v) (hbad : tA N v ≠ 0 → Φ (tA N v) m) (h0 : ∀ t : Nat, v = t → t < 4 → 0 ≤ N t → (zPf (V t) (N t).toNat 0 A).1 = 0 → ∀ m', zo [[2, 0], [0, 2, 0], [3, 0], [0, 3, 0]] m m' → wS m' [2, 0] A → Φ 0 m') (h1 : ∀ t : Nat, v = t → t < 4 → 0 ≤ N t → (zPf (V t) (N t).toNat 0 A).1 ≠ 0 → ∀ m', zCd m m' (zNoA A (zPf (V t) (N t).toNat 0 A).2) → Φ ((zPf (V t) (N t).toNat 0 A).1 : Nat) m') : wX11_perform f Φ [0] v m := by
  refine pX11_trayCode hO hT hv ⟨tA_r, fun c => ?_, fun c => hbad c⟩
  obtain ⟨t, rfl, ht, hn⟩ := tA_0 c
  have hb := tO_b hO ht
  refine pBegin hA hS ?_
  intro m1 z1 d1
  rw [Int.toNat_natCast]
  refine ⟨⟨by omega, by omega⟩, ?_⟩
  refine pX11_doAll hf (Or.inl rfl) hA (zDd_P d1 hP) d1.2.1 hO (tC_off hT (fun t => z1 _ (by simp)) (fun t => z1 _ (by simp))) ht hn ?_
  intro m2 z2 w2
  have d2 := zDd_step d1 z2 w2
  obtain ⟨b1, b2, b3, b4, b5, b6⟩ := zPf_b (U := V t) (N t).toNat 0 A hA
  refine ⟨⟨by omega, by omega⟩, fun c => ?_, fun c => ?_⟩
  · have e : (zPf (V t) (N t).toNat 0 A).1 = 0 := by omega
    rw [b5 e] at d2
    rw [e]
    exact h0 t rfl ht hn e m2 d2.1 d2.2.1
  · exact pDone hA hH hC b4 d2 (fun m3 k _ _ => h1 t rfl ht hn (by omega) m3 k)
/-- the reference -/
theorem hX12_tel {f : Nat} {Φ : Int → aj_M → Prop} {m0 : aj_M} {A U W : Nat → Int} {t n : Nat} (hf : 50 ≤ f) (ht : t < 4) (hn : m0 [45, 1] t = n) (hn2 : n ≤ 40) (hU : ∀ i : Nat, i < n → m0 [46, 1] (40 * t + i) = U i ∧ rL (U i)) (h : ∀ m', rDd m0 m' (zPf U n 0 A).2 → m' [27, 1] = W → m' [1] 28 = (if (zPf U n 0 A).1 = n then 0 else zWhy (zPf U n 0 A).2 (U (zPf U n 0 A).1)) → Φ ((zPf U n 0 A).1 : Nat) m') (hA : wA A) : ∀ (k i : Nat) (B : Nat → Int) (m : aj_M), i ≤ n → n - i < k → zPf U (n - i) i B = zPf U n 0 A → wA B → rDd m0 m B → m [27, 1] = W → m [1] 28 = 0 → hX12_tells_7 f Φ k [1] t (i : Int) m := by
  have hlt := (zPf_b (U := U) n 0 A hA)
  intro k
  induction k with
  | zero => intro i B m h1 h2; omega
  | succ k ih =>
    intro i B m h1 h2 e hB d w q
    have t1 : m [45, 1] = m0 [45, 1] := d.1 _ (by decide)
    have t2 : m [46, 1] = m0 [46, 1] := d.1 _ (by decide)
    unfold hX12_tells_7
    rw [t1, t2, Int.toNat_natCast, hn]
    refine ⟨⟨by omega, by omega⟩, ⟨by omega, by omega⟩, ⟨by omega, by omega⟩, fun c => ⟨⟨by omega, by omega⟩, ?_⟩, fun c => ⟨⟨by omega, by omega⟩, ?_⟩⟩
    · have ei : i = n := by omega
      rw [ei, Nat.sub_self] at e
      have e : (n, B) = zPf U n 0 A := e
      have h := h m
      rw [← e] at h
      exact h d w (by rw [q]; show (0 : Int) = if n = n then 0 else _; rw [if_pos rfl])
    · have hi : i < n := by omega
      have en : n - i = (n - (i + 1)) + 1 := by omega
      rw [en, zPf] at e
      rw [show (40 * (t : Int) + i).toNat = 40 * t + i by omega, (hU i hi).1]
      refine pX12_whyNot hf hB (fun j _ => congrFun d.2.2 j) (hU i hi).2 ?_
      rintro m2 rfl
      have e28 : aj_u m [1] 28 (zWhy B (U i)) [1] 28 = zWhy B (U i) := by rw [zu_tup, tup_s]
      have d2 := rDd_s (j := 28) (v := zWhy B (U i)) (Or.inl rfl) d
      rw [e28]
      refine ⟨zWhy_r, fun c => ⟨⟨by omega, by omega⟩, ?_⟩, fun c => ?_⟩
      · rw [zu_off (by decide), t2, (hU i hi).1]
        refine pX12_does hB d2.2.2 c ?_
        rw [if_pos c] at e
        refine ih (i + 1) _ _ (by omega) (by omega) e (zA_did hB c).1 (rDd_11 d2) ?_ ?_
        · rw [zm_uro (by decide), zu_off (by decide), w]
        · rw [zm_uro (by decide), e28, c]
      · rw [if_neg c] at e
        have h := h _ (by rw [← e]; exact d2) (by rw [zu_off (by decide), w]) (by rw [e28, ← e]; show _ = if i = n then 0 else zWhy B (U i); rw [if_neg (by omega)])
        rw [← e] at h
        exact h
theorem pX12_tells {f : Nat} {Φ : Int → aj_M → Prop} {m0 m : aj_M} {A : Nat → Int} {S N : Nat → Int} {V : Nat → Nat → Int} {t : Nat} (hf : 50 ≤ f) (hA : wA A) (d : rDd m0 m A) (hO : tO S N V) (hR : tR m0 S N V) (ht : t < 4) (hn : 0 ≤ N t) (h : ∀ m', rDd m0 m' (zPf (V t) (N t).toNat 0 A).2 → m' [27, 1] = m [27, 1] → m' [1] 28 = (if (zPf (V t) (N t).toNat 0 A).1 = (N t).toNat then 0 else zWhy (zPf (V t) (N t).toNat 0 A).2 (V t (zPf (V t) (N t).toNat 0 A).1)) → Φ ((zPf (V t) (N t).toNat 0 A).1 : Nat) m') : wX12_tells f Φ [1] t m := by
  have hb := tO_b hO ht
  have hv := (tO_s hO ht hn).2
  have hc := (hR t ht).2 hn
  rintro m1 rfl
  exact hX12_tel hf ht (n := (N t).toNat) (by rw [hc.2.1]; omega) (by omega) (fun i hi => ⟨hc.2.2 i (by omega), hv i (by omega)⟩) h hA f 0 A _ (by omega) (by omega) rfl hA (rDd_s (Or.inl rfl) d) (zu_off (by decide)) (by rw [zu_tup, tup_s])
theorem pX12_perform {f : Nat} {Φ : Int → aj_M → Prop} {m : aj_M} {A : Nat → Int} {S N : Nat → Int} {V : Nat → Nat → Int} {v : Int} (hf : 200 ≤ f) (hA : wA A) (hH : zHA A) (hm : m [1, 1] = A) (hO : tO S N V) (hR : tR m S N V) (hv : rI v) (hbad : tA N v ≠ 0 → Φ (tA N v) (rZ m)) (h0 : ∀ t : Nat, v = t → t < 4 → 0 ≤ N t → (zPf (V t) (N t).toNat 0 A).1 = 0 → ∀ m', rDd m m' A → Φ 0 m') (h1 : ∀ t : Nat, v = t → t < 4 → 0 ≤ N t → (zPf (V t) (N t).toNat 0 A).1 ≠ 0 → ∀ m', rDd m m' (zNoA A (zPf (V t) (N t).toNat 0 A).2) → Φ ((zPf (V t) (N t).toNat 0 A).1 : Nat) m') : wX12_perform f Φ [1] v m := by
  rintro m1 rfl
  have d1 := rDd_rZ hm
  have e1 : aj_u m [1] 0 0 [1, 1] = A := d1.2.2
  refine pX12_noTray hO (tR_rZ hR) hv ⟨tA_r, fun c => ?_, fun c => hbad c⟩
  obtain ⟨t, rfl, ht, hn⟩ := tA_0 c
  have hb := tO_b hO ht
  refine pX12_stores (by omega) (fun W hW => ?_)
  have d2 : rDd m (aj_ur (aj_u m [1] 0 0) [27, 1] W) A := rDd_27 d1
  refine pX12_tells (by omega) hA d2 hO hR ht hn ?_
  intro m3 d3 e3 _
  obtain ⟨b1, b2, b3, b4, b5, b6⟩ := zPf_b (U := V t) (N t).toNat 0 A hA
  refine ⟨⟨by omega, by omega⟩, fun c => ?_, fun c => ?_⟩
  · have e : (zPf (V t) (N t).toNat 0 A).1 = 0 := by omega
    rw [b5 e] at d3
    rw [e]
    exact h0 t rfl ht hn e m3 d3
  · refine pNotes hf hH b4 d3 (fun k hk => ?_) (fun m4 d4 _ => h1 t rfl ht hn (by omega) m4 d4)
    rw [e3, zm_urs, hW k hk, e1]
