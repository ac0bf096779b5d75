/-! DISTANCES: far, the widest, balls -/
def zDs (N L : Nat) (a b : Nat → Nat) (r v : Nat) (z : Int) : Prop := ∃ (c : Nat → Nat → Int) (d vi lb : Nat → Int), zBC N zNo (zJ N L a b) c r d vi lb ∧ z = d v
theorem zDs_u {N L : Nat} {a b : Nat → Nat} {r v : Nat} (hv : v < N) {z z' : Int} (h : zDs N L a b r v z) (h' : zDs N L a b r v z') : z = z' := by
  obtain ⟨c, d, vi, lb, H, rfl⟩ := h
  obtain ⟨c', d', vi', lb', H', rfl⟩ := h'
  exact zBC_eq H' H hv
/-- how far the farthest is -/
def zEc (N L : Nat) (a b : Nat → Nat) (r : Nat) (z : Int) : Prop := ∃ (c : Nat → Nat → Int) (d vi lb : Nat → Int), zBC N zNo (zJ N L a b) c r d vi lb ∧ (∃ v, v < N ∧ d v = z) ∧ ∀ v, v < N → d v ≤ z
theorem zEc_u {N L : Nat} {a b : Nat → Nat} {r : Nat} {z z' : Int} (h : zEc N L a b r z) (h' : zEc N L a b r z') : z = z' := by
  obtain ⟨c, d, vi, lb, H, ⟨v, hv, e⟩, hm⟩ := h
  obtain ⟨c', d', vi', lb', H', ⟨v', hv', e'⟩, hm'⟩ := h'
  have h1 := hm' v hv
  have h2 := hm v' hv'
  have h3 := zBC_eq H H' hv
  have h4 := zBC_eq H H' hv'
  omega
def zMx (N L : Nat) (a b : Nat → Nat) : Nat → Int → Prop
  | 0, z => z = 0
  | n + 1, z => ∃ z' e, zMx N L a b n z' ∧ zEc N L a b n e ∧ z = max z' e
theorem zMx_u {N L : Nat} {a b : Nat → Nat} : ∀ {n : Nat} {z z' : Int}, zMx N L a b n z → zMx N L a b n z' → z = z'
  | 0, _, _, h, h' => h.trans h'.symm
  | n + 1, _, _, ⟨x, e, h1, h2, h3⟩, ⟨x', e', h1', h2', h3'⟩ => by
    rw [h3, h3', zMx_u h1 h1', zEc_u h2 h2']
def zDi (N L : Nat) (a b : Nat → Nat) (z : Int) : Prop := (z = -1 ∧ ∃ n v, n < N ∧ v < N ∧ ¬ zRc N L a b n v) ∨ (zMx N L a b N z ∧ ∀ n v, n < N → v < N → zRc N L a b n v)
theorem zDi_u {N L : Nat} {a b : Nat → Nat} {z z' : Int} (h : zDi N L a b z) (h' : zDi N L a b z') : z = z' := by
  rcases h with ⟨rfl, n, v, h1, h2, h3⟩ | ⟨h1, h2⟩
  · rcases h' with ⟨rfl, _⟩ | ⟨_, h4⟩
    · rfl
    · exact absurd (h4 n v h1 h2) h3
  · rcases h' with ⟨rfl, n, v, h3, h4, h5⟩ | ⟨h3, _⟩
    · exact absurd (h2 n v h3 h4) h5
    · exact zMx_u h1 h3
theorem zcnt_all {P : Nat → Bool} : ∀ n, zcnt P n = n → ∀ v, v < n → P v = true
  | 0, _, v, hv => by omega
  | n + 1, h, v, hv => by
    unfold zcnt at h
    have := zcnt_le (P := P) n
    by_cases hn : P n = true
    · rw [if_pos hn] at h
      by_cases e : v = n
      · subst e; exact hn
      · exact zcnt_all n (by omega) v (by omega)
    · rw [if_neg hn] at h; omega
theorem zBI_full {N : Nat} {bar : Nat → Bool} {jn : Nat → Nat → Nat → Prop} {c : Nat → Nat → Int} {r t h : Nat} {d vi lb : Nat → Int} {x : Nat → Nat} (H : zBI N bar jn c r t h d vi lb x) : (N ≤ t ↔ ∀ v, v < N → 0 ≤ d v) := by
  have h3 := H.2.2.1
  have ht := (zBI_lt H).1
  constructor
  · intro hn v hv
    have := zcnt_all (P := fun v => decide (0 ≤ d v)) N (by omega) v hv
    simpa using this
  · intro hv
    have := zcnt_full (P := fun v => decide (0 ≤ d v)) N (fun v h => by simpa using hv v h)
    omega
theorem zEc_of {N L : Nat} {a b : Nat → Nat} {c : Nat → Nat → Int} {r t : Nat} {d vi lb : Nat → Int} {x : Nat → Nat} (HB : zBI N zNo (zJ N L a b) c r t t d vi lb x) (HC : zBC N zNo (zJ N L a b) c r d vi lb) (hN : 1 ≤ N) (ht : N ≤ t) : zEc N L a b r (d (x (t - 1))) := by
  have h4 := HB.2.2.2.1 (t - 1) (by omega)
  refine ⟨c, d, vi, lb, HC, ⟨x (t - 1), h4.1, rfl⟩, fun v hv => ?_⟩
  obtain ⟨i, hi, rfl⟩ := HB.2.2.2.2.1 v hv ((zBI_full HB).mp ht v hv)
  exact HB.2.2.2.2.2.1 i (t - 1) (by omega) (by omega)
theorem pX5_widest {f : Nat} {Φ : Int → aj_M → Prop} {q : List Nat} {m : aj_M} {N L : Nat} {a b s e : Nat → Nat} (H : nC m q N L a b s e) (h16 : m q 16 = 0) (hvi : ∀ k, rI (m (12 :: q) k)) (hf : 300 ≤ f) (hK : ∀ (z : Int) (m' : aj_M), zDi N L a b z → zN q m m' → Φ z m') : wX5_widest f Φ q m := by
  have hN : N ≤ 60 := H.2.2.2.1
  have hN1 : 1 ≤ N := H.2.2.1
  unfold wX5_widest
  have key : ∀ (k n : Nat) (z : Int) (m1 : aj_M), n ≤ N → N - n < k → zN q m m1 → zMx N L a b n z → 0 ≤ z → z ≤ N → (∀ n' v, n' < n → v < N → zRc N L a b n' v) → hX5_widest_4 f Φ k q z n m1 := by
    intro k
    induction k with
    | zero => intro n z m1 h1 h2; omega
    | succ k ih =>
      intro n z m1 h1 h2 hz hM h0 hzN hall
      have Hm := zN_nC hz H
      unfold hX5_widest_4
      rw [Hm.1]
      refine ⟨⟨by omega, by omega⟩, ⟨by omega, by omega⟩, fun c => hK _ _ (Or.inr ⟨by rw [show N = n by omega] at hM ⊢; exact hM, fun n' v h3 h4 => hall n' v (by omega) h4⟩) hz, fun c => ?_⟩
      refine pX5_spread Hm (B := 0) (by rw [hz.2.1 16 (by decide)]; exact h16) (by decide) (by omega) hf (hz.2.2 hvi) ?_
      intro t d vi br qu x HB HC Hq Hvi
      rw [z0bit] at HB HC
      have hlt := zBI_lt HB
      have hz2 : zN q m (nB m1 q d vi br qu) := zN_tr hz (zN_nB Hvi)
      have h1t := HB.2.1
      simp only [nB_r0, nB_r10, nB_r14, Hm.1]
      refine ⟨⟨by omega, by omega⟩, ⟨by omega, by omega⟩, fun c2 => ?_, fun c2 => hK _ _ (Or.inl ⟨rfl, ?_⟩) hz2⟩
      · have hxt := HB.2.2.2.1 (t - 1) (by omega)
        have hdx := hlt.2 (x (t - 1)) hxt.1
        have et : ((t : Int) - 1).toNat = t - 1 := by omega
        rw [et, Hq (t - 1) (by omega), Int.toNat_natCast]
        refine ⟨⟨by omega, by omega⟩, ⟨by omega, by omega⟩, ⟨by omega, by omega⟩, ⟨by omega, by omega⟩, ?_⟩
        refine ih (n + 1) _ _ (by omega) (by omega) hz2 ⟨z, _, hM, zEc_of HB HC hN1 (by omega), rfl⟩ (by omega) (by omega) (fun n' v h3 h4 => ?_)
        by_cases e' : n' = n
        · subst e'; exact (zBC_R HC h4).mp ((zBI_full HB).mp (by omega) v h4)
        · exact hall n' v (by omega) h4
      · have hnf : ¬ ∀ v, v < N → 0 ≤ d v := fun h => c2 (by have := (zBI_full HB).mpr h; omega)
        by_cases hex : ∃ v, v < N ∧ ¬ 0 ≤ d v
        · obtain ⟨v, hv, hd⟩ := hex
          exact ⟨n, v, by omega, hv, fun h => hd ((zBC_R HC hv).mpr h)⟩
        · exact absurd (fun v hv => by
            by_cases h : 0 ≤ d v
            · exact h
            · exact absurd ⟨v, hv, h⟩ hex) hnf
  exact key f 0 0 m (by omega) (by omega) zN_refl rfl (by omega) (by omega) (fun n' v h => by omega)
theorem pX12_diameter0 {f : Nat} {Φ : Int → aj_M → Prop} {q : List Nat} {m : aj_M} {N L : Nat} {a b : Nat → Nat} (H : nR m q N L a b) (hf : 300 ≤ f) (hK : ∀ (z : Int) (m' : aj_M), zDi N L a b z → zo [24 :: q, 25 :: q, 26 :: q] m m' → Φ z m') : hX12_diameter_13 f Φ f q 0 0 m := by
  have hN : N ≤ 60 := H.2.2.2.1
  have hN1 : 1 ≤ N := H.2.2.1
  have key : ∀ (k n : Nat) (z : Int) (m1 : aj_M), n ≤ N → N - n < k → zo [24 :: q, 25 :: q, 26 :: q] m m1 → zMx N L a b n z → 0 ≤ z → z ≤ N → (∀ n' v, n' < n → v < N → zRc N L a b n' v) → hX12_diameter_13 f Φ k q z n m1 := by
    intro k
    induction k with
    | zero => intro n z m1 h1 h2; omega
    | succ k ih =>
      intro n z m1 h1 h2 hz hM h0 hzN hall
      have Hm := nR_zo hz H
      unfold hX12_diameter_13
      rw [Hm.2.1]
      refine ⟨⟨by omega, by omega⟩, ⟨by omega, by omega⟩, fun c => hK _ _ (Or.inr ⟨by rw [show N = n by omega] at hM ⊢; exact hM, fun n' v h3 h4 => hall n' v (by omega) h4⟩) hz, fun c => ?_⟩
      refine pX12_laysFar Hm (by omega) hf ?_
      intro t d vi F br qu x HB HC Hq HF
      have hlt := zBI_lt HB
      have hz2 : zo [24 :: q, 25 :: q, 26 :: q] m (rB m1 q F br qu) := zo_tr hz zo_rB
      have h1t := HB.2.1
      simp only [rB_r0, rB_r24, rB_r26, Hm.2.1]
      refine ⟨⟨by omega, by omega⟩, ⟨by omega, by omega⟩, fun c2 => ?_, fun c2 => hK _ _ (Or.inl ⟨rfl, ?_⟩) hz2⟩
      · have hxt := HB.2.2.2.1 (t - 1) (by omega)
        have hdx := hlt.2 (x (t - 1)) hxt.1
        have et : ((t : Int) - 1).toNat = t - 1 := by omega
        have hFx : F (x (t - 1)) = d (x (t - 1)) := by rw [HF _ hxt.1, if_neg (by omega)]
        rw [et, Hq (t - 1) (by omega), Int.toNat_natCast, hFx]
        have nxt : ∀ z', z' = max z (d (x (t - 1))) → hX12_diameter_13 f Φ k q z' ((n : Int) + 1) (rB m1 q F br qu) := by
          rintro z' rfl
          refine ih (n + 1) _ _ (by omega) (by omega) hz2 ⟨z, _, hM, zEc_of HB HC hN1 (by omega), rfl⟩ (by omega) (by omega) (fun n' v h3 h4 => ?_)
          by_cases e' : n' = n
          · subst e'; exact (zBC_R HC h4).mp ((zBI_full HB).mp (by omega) v h4)
          · exact hall n' v (by omega) h4
        exact ⟨⟨by omega, by omega⟩, ⟨by omega, by omega⟩, ⟨by omega, by omega⟩, ⟨by omega, by omega⟩, fun c3 => nxt _ (by omega), fun c3 => ⟨⟨by omega, by omega⟩, ⟨by omega, by omega⟩, nxt _ (by omega)⟩⟩
      · have hnf : ¬ ∀ v, v < N → 0 ≤ d v := fun h => c2 (by have := (zBI_full HB).mpr h; omega)
        by_cases hex : ∃ v, v < N ∧ ¬ 0 ≤ d v
        · obtain ⟨v, hv, hd⟩ := hex
          exact ⟨n, v, by omega, hv, fun h => hd ((zBC_R HC hv).mpr h)⟩
        · exact absurd (fun v hv => by
            by_cases h : 0 ≤ d v
            · exact h
            · exact absurd ⟨v, hv, h⟩ hex) hnf
  exact key f 0 0 m (by omega) (by omega) zo_refl rfl (by omega) (by omega) (fun n' v h => by omega)
/-- a ball -/
def zBl (N L : Nat) (a b : Nat → Nat) (r : Nat) (R z : Int) : Prop := ∃ (c : Nat → Nat → Int) (d vi lb : Nat → Int), zBC N zNo (zJ N L a b) c r d vi lb ∧ z = zcnt (fun v => decide (0 ≤ d v ∧ d v ≤ R)) N
theorem zBl_u {N L : Nat} {a b : Nat → Nat} {r : Nat} {R z z' : Int} (h : zBl N L a b r R z) (h' : zBl N L a b r R z') : z = z' := by
  obtain ⟨c, d, vi, lb, H, rfl⟩ := h
  obtain ⟨c', d', vi', lb', H', rfl⟩ := h'
  rw [zcnt_ext N (fun v hv => ?_)]
  show decide (0 ≤ d v ∧ d v ≤ R) = decide (0 ≤ d' v ∧ d' v ≤ R)
  rw [zBC_eq H H' hv]
theorem pX5_within {f : Nat} {Φ : Int → aj_M → Prop} {q : List Nat} {m : aj_M} {N L : Nat} {a b s e : Nat → Nat} (H : nC m q N L a b s e) (h16 : m q 16 = 0) (hvi : ∀ k, rI (m (12 :: q) k)) (hf : 300 ≤ f) {n : Nat} (hn : n < N) {R : Int} (hR : 0 ≤ R ∧ R ≤ 99) (hK : ∀ (z : Int) (m' : aj_M), zBl N L a b n R z → zN q m m' → Φ z m') : wX5_within f Φ q n R m := by
  have hN : N ≤ 60 := H.2.2.2.1
  unfold wX5_within
  refine pX5_spread H (B := 0) h16 (by decide) hn hf hvi ?_
  intro t d vi br qu x HB HC Hq Hvi
  rw [z0bit] at HB HC
  have hlt := zBI_lt HB
  have hcnt := HB.2.2.2.2.2.2.2.2.2.2 R
  refine zfor (H := fun k i (_ : Nat) => ∀ c : Int, c = i → hX5_within_12 f Φ k q R t c i (nB m q d vi br qu)) (N := t) (fun i _ => ∀ j, j < i → d (x j) ≤ R) ?_ f 0 0 (by omega) (by omega) (fun j hj => by omega) 0 rfl
  rintro k i _ hi hI hnx c rfl
  unfold hX5_within_12
  have done : i = t ∨ (i < t ∧ R < d (x i)) → Φ (i : Int) (nB m q d vi br qu) := by
    intro hd
    refine hK _ _ ⟨_, d, vi, br, HC, ?_⟩ (zN_nB Hvi)
    rw [← hcnt]
    have e1 : ∀ n, n ≤ t → zcnt (fun i => decide (d (x i) ≤ R)) n = min n i := by
      intro n
      induction n with
      | zero => intro _; show 0 = _; omega
      | succ n ih =>
        intro hn'
        show zcnt _ n + (if decide (d (x n) ≤ R) = true then 1 else 0) = _
        rw [ih (by omega)]
        by_cases hni : n < i
        · rw [if_pos (by simpa using hI n hni)]; omega
        · have : R < d (x n) := by
            rcases hd with h | h
            · omega
            · have := HB.2.2.2.2.2.1 i n (by omega) (by omega); omega
          rw [if_neg (by simp; omega)]; omega
    rw [e1 t (Nat.le_refl _)]; omega
  refine ⟨⟨by omega, by omega⟩, ⟨by omega, by omega⟩, fun c => done (Or.inl (by omega)), fun c => ?_⟩
  have hxi := HB.2.2.2.1 i (by omega)
  have hdx := hlt.2 (x i) hxi.1
  simp only [nB_r10, nB_r14, Int.toNat_natCast, Hq i (by omega)]
  refine ⟨⟨by omega, by omega⟩, ⟨by omega, by omega⟩, ⟨by omega, by omega⟩, ⟨by omega, by omega⟩, fun c2 => done (Or.inr ⟨by omega, c2⟩), fun c2 => hnx (by omega) 0 (fun j hj => ?_) _ rfl⟩
  by_cases e' : j = i
  · subst e'; omega
  · exact hI j (by omega)
theorem pX12_ball0 {f : Nat} {Φ : Int → aj_M → Prop} {q : List Nat} {m : aj_M} {N L : Nat} {a b : Nat → Nat} (H : nR m q N L a b) (hf : 300 ≤ f) {n : Nat} (hn : n < N) {R : Int} (hR : 0 ≤ R ∧ R ≤ 99) (hK : ∀ (z : Int) (m' : aj_M), zBl N L a b n R z → zo [24 :: q, 25 :: q, 26 :: q] m m' → Φ z m') : wX12_laysFar f (fun z4 m5 => hX12_ball_47 f Φ f q R 0 0 m5) q n m := by
  have hN : N ≤ 60 := H.2.2.2.1
  refine pX12_laysFar H hn hf ?_
  intro t d vi F br qu x HB HC Hq HF
  have hlt := zBI_lt HB
  refine zfor (H := fun k i (_ : Nat) => ∀ c : Int, c = zcnt (fun v => decide (0 ≤ d v ∧ d v ≤ R)) i.toNat → hX12_ball_47 f Φ k q R c i (rB m q F br qu)) (N := N) (fun i _ => True) ?_ f 0 0 (by omega) (by omega) trivial 0 rfl
  rintro k i _ hi _ hnx c rfl
  have hcl := zcnt_le (P := fun v => decide (0 ≤ d v ∧ d v ≤ R)) i
  rw [Int.toNat_natCast]
  unfold hX12_ball_47
  simp only [rB_r0, rB_r24, H.2.1, Int.toNat_natCast]
  refine ⟨⟨by omega, by omega⟩, ⟨by omega, by omega⟩, fun c => hK _ _ ⟨_, d, vi, br, HC, by rw [show i = N by omega]⟩ zo_rB, fun c => ?_⟩
  have hF := HF i (by omega)
  have hd := hlt.2 i (by omega)
  have et : ((i : Int) + 1).toNat = i + 1 := by omega
  have hs : zcnt (fun v => decide (0 ≤ d v ∧ d v ≤ R)) (i + 1) = zcnt (fun v => decide (0 ≤ d v ∧ d v ≤ R)) i + (if decide (0 ≤ d i ∧ d i ≤ R) = true then 1 else 0) := rfl
  refine ⟨⟨by omega, by omega⟩, ?_, ⟨by omega, by omega⟩, fun c2 => hnx (by omega) 0 trivial _ ?_, fun c2 => hnx (by omega) 0 trivial _ ?_⟩
  · rw [hF]; split <;> exact ⟨by omega, by omega⟩
  · rw [et, hs, if_neg]
    · omega
    · simp only [decide_eq_true_eq]
      intro h
      rw [if_neg (by omega)] at hF
      omega
  · rw [et, hs, if_pos]
    · omega
    · simp only [decide_eq_true_eq]
      rcases (by omega : d i < 0 ∨ 0 ≤ d i) with h | h
      · rw [if_pos h] at hF; omega
      · rw [if_neg (by omega)] at hF; omega
theorem pX12_neighbour0 {f : Nat} {Φ : Int → aj_M → Prop} {q : List Nat} {m : aj_M} {N L : Nat} {a b : Nat → Nat} (H : nR m q N L a b) (hJ : ∀ u v, u < 60 → v < 60 → m (21 :: q) (60 * u + v) = zjn L a b u v) {n : Nat} (hn : n < N) {i : Int} (hi : 0 ≤ i) (hi2 : rI i) (hf : 300 ≤ f) (hK : ∀ z : Int, zNb N (fun v => decide (v ≠ n ∧ zjn L a b n v ≠ 0)) i z → Φ z m) : hX12_neighbour_33 f Φ f q n i 0 0 m := by
  have hN : N ≤ 60 := H.2.2.2.1
  have hL : L ≤ 144 := H.2.2.2.2.1
  refine zfor (H := fun k v (_ : Nat) => ∀ c : Int, c = zcnt (fun v => decide (v ≠ n ∧ zjn L a b n v ≠ 0)) v.toNat → hX12_neighbour_33 f Φ k q n i c v m) (N := N) (fun v _ => (zcnt (fun v => decide (v ≠ n ∧ zjn L a b n v ≠ 0)) v : Int) ≤ i) ?_ f 0 0 (by omega) (by omega) hi 0 rfl
  rintro k v _ hv hI hnx c rfl
  have hcl := zcnt_le (P := fun v => decide (v ≠ n ∧ zjn L a b n v ≠ 0)) v
  have hs : zcnt (fun v => decide (v ≠ n ∧ zjn L a b n v ≠ 0)) (v + 1) = zcnt (fun v => decide (v ≠ n ∧ zjn L a b n v ≠ 0)) v + (if decide (v ≠ n ∧ zjn L a b n v ≠ 0) = true then 1 else 0) := rfl
  have et : ((v : Int) + 1).toNat = v + 1 := by omega
  have hjl := zjn_le (L := L) (a := a) (b := b) (u := n) (v := v)
  rw [Int.toNat_natCast]
  unfold hX12_neighbour_33
  rw [H.2.1]
  refine ⟨⟨by omega, by omega⟩, ⟨by omega, by omega⟩, fun c => hK _ (Or.inr ⟨rfl, by rw [show N = v by omega]; exact hI⟩), fun c => ?_⟩
  have e60 : (60 * (n : Int) + (v : Int)).toNat = 60 * n + v := by omega
  rw [e60, hJ n v (by omega) (by omega)]
  have skip : ¬ (v ≠ n ∧ zjn L a b n v ≠ 0) → hX12_neighbour_33 f Φ k q n i (zcnt (fun v => decide (v ≠ n ∧ zjn L a b n v ≠ 0)) v) ((v : Int) + 1) m := by
    intro h
    rw [if_neg (by simpa using h)] at hs
    refine hnx (by omega) 0 (by rw [hs]; exact hI) _ (by rw [et, hs]; rfl)
  refine ⟨⟨by omega, by omega⟩, ⟨by omega, by omega⟩, fun c2 => skip (by omega), fun c2 => ⟨⟨by omega, by omega⟩, ⟨by omega, by omega⟩, fun c3 => ⟨⟨by omega, by omega⟩, hi2, fun c4 => ?_, fun c4 => ?_⟩, fun c3 => skip (by omega)⟩⟩
  · rw [if_pos (by simp; omega)] at hs
    exact hnx (by omega) 0 (by rw [hs]; omega) _ (by rw [et, hs]; omega)
  · exact hK _ (Or.inl ⟨v, by omega, by simp; omega, by omega, rfl⟩)
