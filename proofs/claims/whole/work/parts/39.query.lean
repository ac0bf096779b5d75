/-! QUESTIONS TO A NETWORK -/
def zN (q : List Nat) (m m' : aj_M) : Prop := (∀ r, r ∉ ([q, 10 :: q, 11 :: q, 12 :: q, 13 :: q, 14 :: q] : List (List Nat)) → m' r = m r) ∧ (∀ j, j ≠ 15 → m' q j = m q j) ∧ ((∀ k, rI (m (12 :: q) k)) → ∀ k, rI (m' (12 :: q) k))
theorem zN_refl {q : List Nat} {m : aj_M} : zN q m m := ⟨fun _ _ => rfl, fun _ _ => rfl, fun h => h⟩
theorem zN_tr {q : List Nat} {m m' m'' : aj_M} (h : zN q m m') (h' : zN q m' m'') : zN q m m'' := ⟨fun r hr => (h'.1 r hr).trans (h.1 r hr), fun j hj => (h'.2.1 j hj).trans (h.2.1 j hj), fun hv => h'.2.2 (h.2.2 hv)⟩
theorem zN_nB {q : List Nat} {m : aj_M} {d vi br qu : Nat → Int} (hv : ∀ k, rI (vi k)) : zN q m (nB m q d vi br qu) := by
  refine ⟨fun r hr => ?_, fun j _ => by rw [nB_r0], fun _ => by rw [nB_r12]; exact hv⟩
  simp only [List.mem_cons, List.not_mem_nil, or_false, not_or] at hr
  exact nB_off hr.2.1 hr.2.2.2.1 hr.2.2.2.2.1 hr.2.2.2.2.2
theorem zN_15 {q : List Nat} {m : aj_M} {x : Int} : zN q m (aj_u m q 15 x) := by
  refine ⟨fun r hr => ?_, fun j hj => ?_, fun hv => ?_⟩
  · simp only [List.mem_cons, List.not_mem_nil, or_false, not_or] at hr
    exact aj_u_off hr.1
  · rw [aj_u_at, if_neg hj]
  · rw [aj_u_off (by simp)]; exact hv
theorem zN_nC {q : List Nat} {m m' : aj_M} {N L : Nat} {a b s e : Nat → Nat} (h : zN q m m') (H : nC m q N L a b s e) : nC m' q N L a b s e := nC_of H (h.2.1 0 (by decide)) (h.2.1 1 (by decide)) (h.1 _ (by simp)) (h.1 _ (by simp)) (h.1 _ (by simp)) (h.1 _ (by simp))
theorem nR_zo {q : List Nat} {m m' : aj_M} {N L : Nat} {a b : Nat → Nat} (h : zo [24 :: q, 25 :: q, 26 :: q] m m') (H : nR m q N L a b) : nR m' q N L a b := nR_of H (by rw [h q (by simp)]) (by rw [h q (by simp)]) (h _ (by simp)) (h _ (by simp))
theorem zo_rB {q : List Nat} {m : aj_M} {d br qu : Nat → Int} : zo [24 :: q, 25 :: q, 26 :: q] m (rB m q d br qu) := by
  intro r hr
  simp only [List.mem_cons, List.not_mem_nil, or_false, not_or] at hr
  exact rB_off hr.1 hr.2.1 hr.2.2
/-! links between two nodes; degrees -/
theorem zjn_succ {L : Nat} {a b : Nat → Nat} {u v : Nat} : zjn (L + 1) a b u v = zjn L a b u v + (if (a L = u ∧ b L = v) ∨ (a L = v ∧ b L = u) then 1 else 0) := by
  show zcnt _ L + _ = _
  simp only [decide_eq_true_eq]
  rfl
theorem pX5_linksBetween {f : Nat} {Φ : Int → aj_M → Prop} {q : List Nat} {m : aj_M} {N L : Nat} {a b s e : Nat → Nat} (H : nC m q N L a b s e) {u v : Nat} (hu : u < N) (hv : v < N) (hf : 300 ≤ f) (hK : Φ (zjn L a b u v) m) : wX5_linksBetween f Φ q u v m := by
  obtain ⟨g0, g1, gN1, gN, gL, gE, g2, g8, g9⟩ := H
  unfold wX5_linksBetween
  refine zfor (H := fun k i (s : Nat) => ∀ c : Int, c = s → hX5_linksBetween_5 f Φ k q u v c i m) (N := L) (fun i s => s = zjn i a b u v) ?_ f 0 0 (by omega) (by omega) rfl 0 rfl
  rintro k i s hi rfl hn c rfl
  unfold hX5_linksBetween_5
  simp only [g1, Int.toNat_natCast]
  refine ⟨⟨by omega, by omega⟩, ⟨by omega, by omega⟩, fun c => ?_, fun c => ?_⟩
  · have : i = L := by omega
    subst this
    exact hK
  · have h2 := g2 i (by omega)
    have hab := gE.1 i (by omega)
    have hs := zjn_succ (L := i) (a := a) (b := b) (u := u) (v := v)
    simp only [h2.1, h2.2]
    have yes : ((a i = u ∧ b i = v) ∨ (a i = v ∧ b i = u)) → hX5_linksBetween_5 f Φ k q u v ((zjn i a b u v : Int) + 1) ((i : Int) + 1) m := fun h => hn (by omega) _ rfl _ (by rw [hs, if_pos h]; rfl)
    have no : ¬ ((a i = u ∧ b i = v) ∨ (a i = v ∧ b i = u)) → hX5_linksBetween_5 f Φ k q u v (zjn i a b u v : Int) ((i : Int) + 1) m := fun h => hn (by omega) _ rfl _ (by rw [hs, if_neg h]; rfl)
    have h36 : ¬ (a i = u ∧ b i = v) → hX5_linksBetween_36 f Φ (fun q0 v1 v2 v3 v4 m => hX5_linksBetween_5 f Φ k q0 v1 v2 v3 v4 m) q u v (zjn i a b u v : Int) i m := by
      intro h
      unfold hX5_linksBetween_36
      simp only [h2.1, h2.2, Int.toNat_natCast]
      refine ⟨⟨by omega, by omega⟩, ⟨by omega, by omega⟩, ⟨by omega, by omega⟩, fun c1 => no (by omega), fun c1 => ⟨⟨by omega, by omega⟩, ⟨by omega, by omega⟩, ⟨by omega, by omega⟩, fun c2 => no (by omega), fun c2 => yes (by omega)⟩⟩
    exact ⟨⟨by omega, by omega⟩, ⟨by omega, by omega⟩, ⟨by omega, by omega⟩, fun c1 => h36 (by omega), fun c1 => ⟨⟨by omega, by omega⟩, ⟨by omega, by omega⟩, ⟨by omega, by omega⟩, fun c2 => yes (by omega), fun c2 => h36 (by omega)⟩⟩
theorem pX5_endsAt {f : Nat} {Φ : Int → aj_M → Prop} {q : List Nat} {m : aj_M} {N L : Nat} {a b s e : Nat → Nat} (H : nC m q N L a b s e) {n : Nat} (hn : n < N) (hK : Φ (zdeg L a b n) m) : wX5_endsAt f Φ q n m := by
  obtain ⟨g0, g1, gN1, gN, gL, gE, g2, g8, g9⟩ := H
  unfold wX5_endsAt
  rw [zt1, Int.toNat_natCast, g8 (n + 1) (by omega), g8 n (by omega)]
  refine ⟨⟨by omega, by omega⟩, ⟨by omega, by omega⟩, ?_⟩
  have := gE.2.2.2.2.2 n hn
  rwa [show (s (n + 1) : Int) - (s n : Int) = (zdeg L a b n : Int) by omega]
theorem pX12_degreeOf {f : Nat} {Φ : Int → aj_M → Prop} {q : List Nat} {m : aj_M} {N L : Nat} {a b : Nat → Nat} (H : nR m q N L a b) {n : Nat} (hn : n < N) (hf : 300 ≤ f) (hK : Φ (zdeg L a b n) m) : wX12_degreeOf f Φ q n m := by
  obtain ⟨g0, g1, gN1, gN, gL, hab, g2⟩ := H
  unfold wX12_degreeOf
  refine zfor (H := fun k i (s : Nat) => ∀ c : Int, c = s → hX12_degreeOf_4 f Φ k q n c i m) (N := L) (fun i s => s = zdeg i a b n) ?_ f 0 0 (by omega) (by omega) rfl 0 rfl
  rintro k i s hi rfl hnx c rfl
  unfold hX12_degreeOf_4
  simp only [g0, Int.toNat_natCast]
  refine ⟨⟨by omega, by omega⟩, ⟨by omega, by omega⟩, fun c => ?_, fun c => ?_⟩
  · have : i = L := by omega
    subst this
    exact hK
  · have h2 := g2 i (by omega)
    have h3 := hab i (by omega)
    have hs := zdeg_succ (L := i) (a := a) (b := b) (n := n)
    simp only [h2.1]
    have h28 : ∀ z : Int, z = (if a i = n then 1 else 0) → hX12_degreeOf_28 f Φ (fun q0 v1 v2 v3 m => hX12_degreeOf_4 f Φ k q0 v1 v2 v3 m) q n i (zdeg i a b n : Int) z m := by
      rintro z rfl
      unfold hX12_degreeOf_28
      simp only [h2.2, Int.toNat_natCast]
      refine ⟨⟨by omega, by omega⟩, ⟨by omega, by omega⟩, ⟨by omega, by omega⟩, fun c1 => hnx (by omega) _ rfl _ ?_, fun c1 => hnx (by omega) _ rfl _ ?_⟩
      · rw [hs, if_neg (show ¬ b i = n by omega)]; split <;> omega
      · rw [hs, if_pos (show b i = n by omega)]; split <;> omega
    exact ⟨⟨by omega, by omega⟩, ⟨by omega, by omega⟩, ⟨by omega, by omega⟩, fun c1 => h28 0 (by rw [if_neg (by omega)]), fun c1 => h28 1 (by rw [if_pos (by omega)])⟩
def zReg (N L : Nat) (a b : Nat → Nat) (z : Int) : Prop := (z = zdeg L a b 0 ∧ ∀ n, n < N → zdeg L a b n = zdeg L a b 0) ∨ (z = -1 ∧ ∃ n, n < N ∧ zdeg L a b n ≠ zdeg L a b 0)
theorem zReg_u {N L : Nat} {a b : Nat → Nat} {z z' : Int} (h : zReg N L a b z) (h' : zReg N L a b z') : z = z' := by
  rcases h with ⟨rfl, h⟩ | ⟨rfl, n, h1, h2⟩
  · rcases h' with ⟨rfl, h'⟩ | ⟨rfl, n, h1, h2⟩
    · rfl
    · exact absurd (h n h1) h2
  · rcases h' with ⟨rfl, h'⟩ | ⟨rfl, _⟩
    · exact absurd (h' n h1) h2
    · rfl
theorem zdeg_le {L : Nat} {a b : Nat → Nat} {n : Nat} : zdeg L a b n ≤ 2 * L := by
  have h1 := zcnt_le (P := fun l => decide (a l = n)) L
  have h2 := zcnt_le (P := fun l => decide (b l = n)) L
  unfold zdeg
  omega
theorem zReg_b {N L : Nat} {a b : Nat → Nat} {z : Int} (h : zReg N L a b z) : -1 ≤ z ∧ z ≤ 2 * L := by
  rcases h with ⟨rfl, _⟩ | ⟨rfl, _⟩
  · have := zdeg_le (L := L) (a := a) (b := b) (n := 0); omega
  · omega
theorem pX5_commonDegree {f : Nat} {Φ : Int → aj_M → Prop} {q : List Nat} {m : aj_M} {N L : Nat} {a b s e : Nat → Nat} (H : nC m q N L a b s e) (hf : 300 ≤ f) (hK : ∀ z, zReg N L a b z → Φ z m) : wX5_commonDegree f Φ q m := by
  have hN1 : 1 ≤ N := H.2.2.1
  have hN : N ≤ 60 := H.2.2.2.1
  have hL : L ≤ 144 := H.2.2.2.2.1
  have hd : ∀ n, zdeg L a b n ≤ 288 := fun n => by have := zdeg_le (L := L) (a := a) (b := b) (n := n); omega
  unfold wX5_commonDegree
  refine zfor (H := fun k i (_ : Nat) => hX5_commonDegree_2 f Φ k q i m) (N := N) (fun i _ => ∀ n, n < i → zdeg L a b n = zdeg L a b 0) ?_ f 1 0 (by omega) (by omega) (fun n hn => by rw [show n = 0 by omega])
  intro k i _ hi hI hn
  unfold hX5_commonDegree_2
  simp only [H.1]
  refine ⟨⟨by omega, by omega⟩, ⟨by omega, by omega⟩, fun c => pX5_endsAt (n := 0) H (by omega) (hK _ (Or.inl ⟨rfl, fun n hn => hI n (by omega)⟩)), fun c => ?_⟩
  refine pX5_endsAt H (by omega) (pX5_endsAt (n := 0) H (by omega) ?_)
  have h1 := hd i
  have h2 := hd 0
  refine ⟨⟨by omega, by omega⟩, ⟨by omega, by omega⟩, fun c2 => hn (by omega) 0 (fun n hn' => ?_), fun c2 => hK _ (Or.inr ⟨rfl, i, by omega, by omega⟩)⟩
  by_cases e : n = i
  · subst e; omega
  · exact hI n (by omega)
theorem pX12_regularNow {f : Nat} {Φ : Int → aj_M → Prop} {q : List Nat} {m : aj_M} {N L : Nat} {a b : Nat → Nat} (H : nR m q N L a b) (hf : 300 ≤ f) (hK : ∀ z, zReg N L a b z → Φ z m) : wX12_regularNow f Φ q m := by
  have hN1 : 1 ≤ N := H.2.2.1
  have hN : N ≤ 60 := H.2.2.2.1
  have hL : L ≤ 144 := H.2.2.2.2.1
  have hd : ∀ n, zdeg L a b n ≤ 288 := fun n => by have := zdeg_le (L := L) (a := a) (b := b) (n := n); omega
  unfold wX12_regularNow
  refine pX12_degreeOf (n := 0) H (by omega) hf ?_
  refine zfor (H := fun k i (_ : Nat) => hX12_regularNow_8 f Φ k q (zdeg L a b 0) i m) (N := N) (fun i _ => ∀ n, n < i → zdeg L a b n = zdeg L a b 0) ?_ f 1 0 (by omega) (by omega) (fun n hn => by rw [show n = 0 by omega])
  intro k i _ hi hI hn
  unfold hX12_regularNow_8
  simp only [H.2.1]
  refine ⟨⟨by omega, by omega⟩, ⟨by omega, by omega⟩, fun c => hK _ (Or.inl ⟨rfl, fun n hn => hI n (by omega)⟩), fun c => ?_⟩
  refine pX12_degreeOf H (by omega) hf ?_
  have h1 := hd i
  have h2 := hd 0
  refine ⟨⟨by omega, by omega⟩, ⟨by omega, by omega⟩, fun c2 => hn (by omega) 0 (fun n hn' => ?_), fun c2 => hK _ (Or.inr ⟨rfl, i, by omega, by omega⟩)⟩
  by_cases e : n = i
  · subst e; omega
  · exact hI n (by omega)
/-! the neighbour at a place -/
def zNb (N : Nat) (P : Nat → Bool) (i z : Int) : Prop := (∃ v : Nat, v < N ∧ P v = true ∧ (zcnt P v : Int) = i ∧ z = v) ∨ (z = -1 ∧ (zcnt P N : Int) ≤ i)
theorem zNb_u {N : Nat} {P Q : Nat → Bool} {i z z' : Int} (hPQ : ∀ v, v < N → P v = Q v) (h : zNb N P i z) (h' : zNb N Q i z') : z = z' := by
  have e : ∀ v, v ≤ N → zcnt P v = zcnt Q v := fun v hv => zcnt_ext v (fun w hw => hPQ w (by omega))
  have st1 : ∀ (R : Nat → Bool) (v w : Nat), v < w → R v = true → zcnt R v < zcnt R w := by
    intro R v w hvw hR
    have h1 : zcnt R (v + 1) = zcnt R v + 1 := by
      show zcnt R v + _ = _
      rw [hR]; rfl
    have h2 := zcnt_mono (P := R) (show v + 1 ≤ w by omega)
    omega
  rcases h with ⟨v, h1, h2, h3, rfl⟩ | ⟨rfl, h3⟩
  · rcases h' with ⟨w, h4, h5, h6, rfl⟩ | ⟨rfl, h6⟩
    · have e1 := e v (by omega)
      have e2 := e w (by omega)
      rcases Nat.lt_trichotomy v w with h | h | h
      · have := st1 P v w h h2; omega
      · rw [h]
      · have := st1 Q w v h h5; omega
    · have := st1 P v N h1 h2
      have := e N (by omega)
      omega
  · rcases h' with ⟨w, h4, h5, h6, rfl⟩ | ⟨rfl, h6⟩
    · have := st1 Q w N h4 h5
      have := e N (by omega)
      omega
    · rfl
theorem zjn_pos {N L : Nat} {a b : Nat → Nat} (hab : ∀ l, l < L → a l < N ∧ b l < N) {u v : Nat} : zjn L a b u v ≠ 0 ↔ ∃ l, zJ N L a b l u v := by
  induction L with
  | zero => exact ⟨fun h => absurd rfl h, fun ⟨l, h⟩ => absurd h.1 (Nat.not_lt_zero _)⟩
  | succ L ih =>
    have ih := ih (fun l hl => hab l (by omega))
    rw [zjn_succ]
    constructor
    · intro h
      by_cases c : (a L = u ∧ b L = v) ∨ (a L = v ∧ b L = u)
      · have := hab L (by omega)
        exact ⟨L, by omega, by omega, by omega, c⟩
      · rw [if_neg c] at h
        obtain ⟨l, hl⟩ := ih.mp h
        exact ⟨l, by have := hl.1; omega, hl.2⟩
    · rintro ⟨l, h1, h2, h3, h4⟩
      by_cases e : l = L
      · subst e; rw [if_pos h4]; omega
      · have := ih.mpr ⟨l, by omega, h2, h3, h4⟩
        omega
theorem pX5_neighbourAt {f : Nat} {Φ : Int → aj_M → Prop} {q : List Nat} {m : aj_M} {N L : Nat} {a b s e : Nat → Nat} (H : nC m q N L a b s e) {n : Nat} (hn : n < N) {i : Int} (hi : 0 ≤ i) (hi2 : rI i) (hf : 300 ≤ f) (hK : ∀ (z : Int) (m' : aj_M), zNb N (fun v => decide (v ≠ n ∧ zjn L a b n v ≠ 0)) i z → zN q m m' → Φ z m') : wX5_neighbourAt f Φ q n i m := by
  have Hc := H
  obtain ⟨g0, g1, gN1, gN, gL, gE, g2, g8, g9⟩ := H
  obtain ⟨e1, e2, e3, e4, e5, e6⟩ := gE
  have r15 : ∀ (M : aj_M) (x : Int), aj_u M q 15 x q 15 = x := fun M x => by rw [aj_u_at, if_pos rfl]
  -- the second loop
  have snd : ∀ (m1 : aj_M) (B : Nat), zN q m m1 → m1 q 15 = B → B < 2 ^ 60 → (∀ v, v < N → B.testBit v = decide (v ≠ n ∧ zjn L a b n v ≠ 0)) → hX5_neighbourAt_73 f Φ f q i 0 m1 := by
    intro m1 B hz hB hB2 hBv
    refine zfor (H := fun k v (_ : Nat) => ∀ c : Int, c = i - zcnt (fun v => decide (v ≠ n ∧ zjn L a b n v ≠ 0)) v.toNat → hX5_neighbourAt_73 f Φ k q c v m1) (N := N) (fun v _ => (zcnt (fun v => decide (v ≠ n ∧ zjn L a b n v ≠ 0)) v : Int) ≤ i) ?_ f 0 0 (by omega) (by omega) hi i (by show i = i - ((0 : Nat) : Int); omega)
    rintro k v _ hv hI hnx c rfl
    have hcl := zcnt_le (P := fun v => decide (v ≠ n ∧ zjn L a b n v ≠ 0)) v
    unfold hX5_neighbourAt_73
    rw [hz.2.1 0 (by decide), g0, hB, zl_bit (by omega) (by omega)]
    refine ⟨⟨by omega, by omega⟩, ⟨by omega, by omega⟩, fun c => hK _ _ (Or.inr ⟨rfl, ?_⟩) hz, fun c => ?_⟩
    · rw [show N = v by omega]; exact hI
    · have hbv := hBv v (by omega)
      have hs : zcnt (fun v => decide (v ≠ n ∧ zjn L a b n v ≠ 0)) (v + 1) = zcnt (fun v => decide (v ≠ n ∧ zjn L a b n v ≠ 0)) v + (if decide (v ≠ n ∧ zjn L a b n v ≠ 0) = true then 1 else 0) := rfl
      have et : ((v : Int) + 1).toNat = v + 1 := by omega
      rw [Int.toNat_natCast]
      by_cases hb : B.testBit v = true
      · rw [if_pos hb]
        rw [hbv] at hb
        rw [hb, if_pos rfl] at hs
        refine ⟨by decide, fun c => absurd rfl c, fun _ => ⟨⟨by omega, by have := hi2.2; omega⟩, fun c2 => hnx (by omega) 0 ?_ _ ?_, fun c2 => hK _ _ (Or.inl ⟨v, by omega, hb, by omega, rfl⟩) hz⟩⟩
        · rw [hs]; omega
        · rw [et, hs]; omega
      · rw [if_neg hb]
        rw [hbv] at hb
        rw [if_neg hb] at hs
        refine ⟨by decide, fun _ => hnx (by omega) 0 ?_ _ ?_, fun c => absurd c (by decide)⟩
        · rw [hs]; exact hI
        · rw [et, hs]; rfl
  unfold wX5_neighbourAt
  rintro _ rfl
  rw [aj_u_off (show (8 :: q) ≠ q by simp), Int.toNat_natCast, g8 n (by omega)]
  refine ⟨⟨by omega, by omega⟩, ?_⟩
  have hs := e2 n hn
  have key : ∀ (k j : Nat) (m1 : aj_M) (B : Nat), s n ≤ j → j ≤ s (n + 1) → s (n + 1) - j < k → zN q m m1 → m1 q 15 = B → B < 2 ^ 60 → (∀ v, v < N → (B.testBit v = true ↔ ∃ k, s n ≤ k ∧ k < j ∧ zJ N L a b (e k) n v)) → hX5_neighbourAt_12 f Φ k q n i j m1 := by
    intro k
    induction k with
    | zero => intro j m1 B h1 h2 h3; omega
    | succ k ih =>
      intro j m1 B h1 h2 h3 hz hB hB2 hBv
      have Hm := zN_nC hz Hc
      unfold hX5_neighbourAt_12
      rw [zt1, Hm.2.2.2.2.2.2.2.1 (n + 1) (by omega), hB]
      refine ⟨⟨by omega, by omega⟩, ⟨by omega, by omega⟩, ⟨by omega, by omega⟩, fun c => ?_, fun c => ⟨⟨by omega, by omega⟩, ?_⟩⟩
      · rintro _ rfl
        obtain ⟨B', hB'1, hB'2, hB'3⟩ := zl_clr (n := B) (i := n) (by omega) (by omega)
        rw [hB'2]
        refine snd _ B' (zN_tr hz zN_15) (r15 _ _) (by omega) (fun v hv => ?_)
        rw [hB'3 v]
        have h9 := hBv v hv
        have h10 : (∃ k, s n ≤ k ∧ k < j ∧ zJ N L a b (e k) n v) ↔ zjn L a b n v ≠ 0 := by
          rw [zjn_pos e1]
          constructor
          · rintro ⟨k, _, _, hk⟩; exact ⟨_, hk⟩
          · rintro ⟨l, hl⟩
            obtain ⟨k, k1, k2, k3⟩ := e4 l n v hl
            exact ⟨k, k1, by omega, by rw [k3]; exact hl⟩
        rw [h10] at h9
        by_cases hvn : v = n
        · subst hvn; simp
        · by_cases hj : zjn L a b n v = 0
          · have : B.testBit v = false := by
              by_cases hb : B.testBit v = true
              · exact absurd hj (h9.mp hb)
              · simpa using hb
            simp [this, hj]
          · have : B.testBit v = true := h9.mpr hj
            simp [this, hj, hvn]
      · rw [Int.toNat_natCast, Hm.2.2.2.2.2.2.2.2 n j hn h1 (by omega)]
        have hej := e3 n j hn h1 (by omega)
        refine pX5_otherEnd gL gN Hm.2.2.2.2.2.2.1 e1 hej.1 hej.2 ?_
        intro v hjn
        rintro _ rfl
        have hvN := hjn.2.2.1
        have h2v : 2 ^ v < 2 ^ 60 := Nat.pow_lt_pow_right (by decide) (by omega)
        rw [zl_shl (by omega), zl_or (by omega) (by omega)]
        refine ih (j + 1) _ (B ||| 2 ^ v) (by omega) (by omega) (by omega) (zN_tr hz zN_15) (r15 _ _) (Nat.or_lt_two_pow hB2 h2v) (fun w hw => ?_)
        rw [zt_or]
        have h9 := hBv w hw
        simp only [Bool.or_eq_true, decide_eq_true_eq, h9]
        constructor
        · rintro (⟨k, k1, k2, k3⟩ | rfl)
          · exact ⟨k, k1, by omega, k3⟩
          · exact ⟨j, h1, by omega, hjn⟩
        · rintro ⟨k, k1, k2, k3⟩
          by_cases ek : k = j
          · subst ek; exact Or.inr (zJ_other hjn k3)
          · exact Or.inl ⟨k, k1, by omega, k3⟩
  exact key f (s n) _ 0 (Nat.le_refl _) hs.1 (by omega) zN_15 (r15 _ _) (by decide) (fun v hv => by simp; intro k h1 h2; omega)
