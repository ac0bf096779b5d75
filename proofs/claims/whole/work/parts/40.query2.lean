/-! WHO CAN BE COME TO -/
def zRc (N L : Nat) (a b : Nat → Nat) (u v : Nat) : Prop := ∃ (k : Nat) (c le : Nat → Nat), c 0 = u ∧ c k = v ∧ ∀ i, i < k → zJ N L a b (le i) (c i) (c (i + 1))
theorem zRc_refl {N L : Nat} {a b : Nat → Nat} {u : Nat} : zRc N L a b u u := ⟨0, fun _ => u, fun _ => 0, rfl, rfl, fun i hi => by omega⟩
theorem zRc_sym {N L : Nat} {a b : Nat → Nat} {u v : Nat} (h : zRc N L a b u v) : zRc N L a b v u := by
  obtain ⟨k, c, le, c0, ck, cj⟩ := h
  refine ⟨k, fun i => c (k - i), fun i => le (k - 1 - i), by simpa using ck, by simpa using c0, fun i hi => ?_⟩
  have := cj (k - 1 - i) (by omega)
  rw [show k - 1 - i + 1 = k - i by omega] at this
  show zJ N L a b (le (k - 1 - i)) (c (k - i)) (c (k - (i + 1)))
  rw [show k - (i + 1) = k - 1 - i by omega]
  exact zJ_sym this
theorem zRc_tr {N L : Nat} {a b : Nat → Nat} {u v w : Nat} (h : zRc N L a b u v) (h' : zRc N L a b v w) : zRc N L a b u w := by
  obtain ⟨k, c, le, c0, ck, cj⟩ := h
  obtain ⟨k', c', le', c0', ck', cj'⟩ := h'
  refine ⟨k + k', fun i => if i ≤ k then c i else c' (i - k), fun i => if i < k then le i else le' (i - k), ?_, ?_, fun i hi => ?_⟩
  · show (if 0 ≤ k then c 0 else _) = u
    rw [if_pos (by omega)]; exact c0
  · show (if k + k' ≤ k then c (k + k') else c' (k + k' - k)) = w
    by_cases e : k' = 0
    · subst e
      rw [if_pos (by omega)]
      rw [Nat.add_zero, ck, ← c0']; exact ck'
    · rw [if_neg (by omega), show k + k' - k = k' by omega]; exact ck'
  · show zJ N L a b (if i < k then le i else le' (i - k)) (if i ≤ k then c i else c' (i - k)) (if i + 1 ≤ k then c (i + 1) else c' (i + 1 - k))
    by_cases h1 : i < k
    · rw [if_pos h1, if_pos (by omega), if_pos (by omega)]; exact cj i h1
    · have := cj' (i - k) (by omega)
      rw [if_neg h1, if_neg (show ¬ i + 1 ≤ k by omega), show i + 1 - k = i - k + 1 by omega]
      by_cases e : i = k
      · subst e
        rw [if_pos (Nat.le_refl _), ck, ← c0']
        rwa [Nat.sub_self] at this ⊢
      · rw [if_neg (by omega)]; exact this
theorem zBC_R {N L : Nat} {a b : Nat → Nat} {cl : Nat → Nat → Int} {r : Nat} {d vi lb : Nat → Int} (H : zBC N zNo (zJ N L a b) cl r d vi lb) {v : Nat} (hv : v < N) : 0 ≤ d v ↔ zRc N L a b r v := by
  constructor
  · intro h
    obtain ⟨c, le, c0, ck, cj, _⟩ := zpath H (d v).toNat v hv (by omega)
    exact ⟨_, c, le, c0, ck, cj⟩
  · rintro ⟨k, c, le, c0, ck, cj⟩
    have := (zwalk_d H c0 cj k (Nat.le_refl _)).1
    rwa [ck] at this
theorem pX5_markReached {f : Nat} {Φ : aj_M → Prop} {q : List Nat} {m : aj_M} {N t : Nat} {x : Nat → Nat} (hx : ∀ i, i < t → m (14 :: q) i = x i) (hxN : ∀ i, i < t → x i < N) (ht : t ≤ N) (hN : N ≤ 60) {B : Nat} (hB : m q 15 = B) (hB2 : B < 2 ^ 60) (hf : 300 ≤ f) (hK : ∀ (m' : aj_M) (B' : Nat), zN q m m' → m' (10 :: q) = m (10 :: q) → m' q 15 = B' → B' < 2 ^ 60 → (∀ v, B'.testBit v = true ↔ (B.testBit v = true ∨ ∃ i, i < t ∧ x i = v)) → Φ m') : wX5_markReached f Φ q t m := by
  unfold wX5_markReached
  refine zfor (H := fun k i s => hX5_markReached_2 f Φ k q t i s) (N := t) (fun i s => zN q m s ∧ s (10 :: q) = m (10 :: q) ∧ s (14 :: q) = m (14 :: q) ∧ ∃ B' : Nat, s q 15 = B' ∧ B' < 2 ^ 60 ∧ ∀ v, B'.testBit v = true ↔ (B.testBit v = true ∨ ∃ j, j < i ∧ x j = v)) ?_ f 0 m (by omega) (by omega) ⟨zN_refl, rfl, rfl, B, hB, hB2, fun v => ⟨fun h => Or.inl h, fun h => h.elim id (fun ⟨j, hj, _⟩ => by omega)⟩⟩
  rintro k i s hi ⟨h1, h2, h3, B', h4, h5, h6⟩ hn
  unfold hX5_markReached_2
  refine ⟨⟨by omega, by omega⟩, ⟨by omega, by omega⟩, fun c => hK s B' h1 h2 h4 h5 (fun v => ?_), fun c => ⟨⟨by omega, by omega⟩, fun c2 => by omega, fun c2 => ⟨⟨by omega, by omega⟩, ?_⟩⟩⟩
  · rw [h6 v, show i = t by omega]
  · rw [Int.toNat_natCast, h3, hx i (by omega), h4]
    have hxi := hxN i (by omega)
    have h2v : 2 ^ x i < 2 ^ 60 := Nat.pow_lt_pow_right (by decide) (by omega)
    rw [zl_shl (by omega), zl_or (by omega) (by omega)]
    rintro _ rfl
    refine hn (by omega) _ ⟨zN_tr h1 zN_15, ?_, ?_, B' ||| 2 ^ x i, ?_, Nat.or_lt_two_pow h5 h2v, fun v => ?_⟩
    · rw [aj_u_off (by simp)]; exact h2
    · rw [aj_u_off (by simp)]; exact h3
    · rw [aj_u_at, if_pos rfl]
    · rw [zt_or]
      simp only [Bool.or_eq_true, decide_eq_true_eq, h6 v]
      constructor
      · rintro ((h | ⟨j, h7, h8⟩) | h)
        · exact Or.inl h
        · exact Or.inr ⟨j, by omega, h8⟩
        · exact Or.inr ⟨i, by omega, h⟩
      · rintro (h | ⟨j, h7, h8⟩)
        · exact Or.inl (Or.inl h)
        · by_cases e : j = i
          · subst e; exact Or.inr h8
          · exact Or.inl (Or.inr ⟨j, by omega, h8⟩)
/-- parts: as many as there are nodes to which no smaller one leads -/
def zPt (N L : Nat) (a b : Nat → Nat) (z : Int) : Prop := ∃ P : Nat → Bool, (∀ n, n < N → (P n = true ↔ ∀ r, r < n → ¬ zRc N L a b r n)) ∧ z = zcnt P N
theorem zPt_u {N L : Nat} {a b : Nat → Nat} {z z' : Int} (h : zPt N L a b z) (h' : zPt N L a b z') : z = z' := by
  obtain ⟨P, h1, rfl⟩ := h
  obtain ⟨Q, h2, rfl⟩ := h'
  rw [zcnt_ext N (fun v hv => ?_)]
  have e : P v = true ↔ Q v = true := (h1 v hv).trans (h2 v hv).symm
  exact Bool.eq_iff_iff.mpr e
theorem pX5_countParts {f : Nat} {Φ : Int → aj_M → Prop} {q : List Nat} {m : aj_M} {N L : Nat} {a b s e : Nat → Nat} (H : nC m q N L a b s e) (h16 : m q 16 = 0) (hvi : ∀ k, rI (m (12 :: q) k)) (hf : 300 ≤ f) (hK : ∀ (z : Int) (m' : aj_M), zPt N L a b z → zN q m m' → Φ z m') : wX5_countParts f Φ q m := by
  have hN : N ≤ 60 := H.2.2.2.1
  unfold wX5_countParts
  rintro _ rfl
  have key : ∀ (k n : Nat) (P : Nat → Bool) (m1 : aj_M) (B : Nat), n ≤ N → N - n < k → zN q m m1 → m1 q 15 = B → B < 2 ^ 60 → (∀ v, v < N → (B.testBit v = true ↔ ∃ r, r < n ∧ zRc N L a b r v)) → (∀ v, v < n → (P v = true ↔ ∀ r, r < v → ¬ zRc N L a b r v)) → hX5_countParts_9 f Φ k q (zcnt P n) n m1 := by
    intro k
    induction k with
    | zero => intro n P m1 B h1 h2; omega
    | succ k ih =>
      intro n P m1 B h1 h2 hz hB hB2 hBv hP
      have Hm := zN_nC hz H
      have hcl := zcnt_le (P := P) n
      unfold hX5_countParts_9
      rw [Hm.1, hB, zl_bit (by omega) (by omega)]
      refine ⟨⟨by omega, by omega⟩, ⟨by omega, by omega⟩, fun c => hK _ _ ⟨P, fun v hv => hP v (by omega), by rw [show n = N by omega]⟩ hz, fun c => ?_⟩
      have hcnt : ∀ Q : Nat → Bool, zcnt (fun v => if v = n then Q n else P v) n = zcnt P n := fun Q => zcnt_ext n (fun v hv => if_neg (by omega))
      by_cases hb : B.testBit n = true
      · rw [if_pos hb]
        refine ⟨by decide, fun _ => ?_, fun c => absurd c (by decide)⟩
        obtain ⟨r, hr, hrn⟩ := (hBv n (by omega)).mp hb
        have := ih (n + 1) (fun v => if v = n then false else P v) m1 B (by omega) (by omega) hz hB hB2 (fun v hv => ?_) (fun v hv => ?_)
        · have e1 : zcnt (fun v => if v = n then false else P v) (n + 1) = zcnt P n := by
            show zcnt _ n + _ = _
            rw [hcnt (fun _ => false)]; simp
          rw [e1] at this
          exact this
        · rw [hBv v hv]
          constructor
          · rintro ⟨r', h3, h4⟩; exact ⟨r', by omega, h4⟩
          · rintro ⟨r', h3, h4⟩
            by_cases e' : r' = n
            · subst e'; exact ⟨r, hr, zRc_tr hrn h4⟩
            · exact ⟨r', by omega, h4⟩
        · by_cases e' : v = n
          · subst e'
            simp only [if_true]
            exact ⟨fun h => (by cases h), fun h => absurd hrn (h r hr)⟩
          · rw [if_neg e']; exact hP v (by omega)
      · rw [if_neg hb]
        refine ⟨by decide, fun c => absurd rfl c, fun _ => ?_⟩
        have hno : ∀ r, r < n → ¬ zRc N L a b r n := fun r hr h => hb ((hBv n (by omega)).mpr ⟨r, hr, h⟩)
        refine pX5_spread Hm (B := 0) (by rw [hz.2.1 16 (by decide)]; exact h16) (by decide) (by omega) hf (hz.2.2 hvi) ?_
        intro t d vi br qu x HB HC Hq Hvi
        rw [z0bit] at HB HC
        refine pX5_markReached (N := N) (x := x) (fun i hi => by rw [nB_r14]; exact Hq i hi) (fun i hi => (HB.2.2.2.1 i hi).1) (zBI_lt HB).1 hN (by rw [nB_r0]; exact hB) hB2 hf ?_
        intro m2 B' hz2 _ hB' hB2' hBv'
        have := ih (n + 1) (fun v => if v = n then true else P v) m2 B' (by omega) (by omega) (zN_tr hz (zN_tr (zN_nB Hvi) hz2)) hB' hB2' (fun v hv => ?_) (fun v hv => ?_)
        · have e1 : zcnt (fun v => if v = n then true else P v) (n + 1) = zcnt P n + 1 := by
            show zcnt _ n + _ = _
            rw [hcnt (fun _ => true)]; simp
          rw [e1] at this
          exact this
        · rw [hBv' v, hBv v hv]
          constructor
          · rintro (⟨r', h3, h4⟩ | ⟨i, h3, rfl⟩)
            · exact ⟨r', by omega, h4⟩
            · exact ⟨n, by omega, (zBC_R HC hv).mp (HB.2.2.2.1 i h3).2.1⟩
          · rintro ⟨r', h3, h4⟩
            by_cases e' : r' = n
            · subst e'
              obtain ⟨i, hi, e2⟩ := HB.2.2.2.2.1 v hv ((zBC_R HC hv).mpr h4)
              exact Or.inr ⟨i, hi, e2⟩
            · exact Or.inl ⟨r', by omega, h4⟩
        · by_cases e' : v = n
          · subst e'
            simp only [if_true]
            exact ⟨fun _ => hno, fun _ => trivial⟩
          · rw [if_neg e']; exact hP v (by omega)
  exact key f 0 (fun _ => false) _ 0 (by omega) (by omega) zN_15 (by rw [aj_u_at, if_pos rfl]; rfl) (by decide) (fun v hv => by simp) (fun v hv => by omega)
theorem pX12_parts0 {f : Nat} {Φ : Int → aj_M → Prop} {q : List Nat} {m : aj_M} {N L : Nat} {a b : Nat → Nat} (H : nR m q N L a b) (hf : 300 ≤ f) (hK : ∀ (z : Int) (m' : aj_M), zPt N L a b z → zo [24 :: q, 25 :: q, 26 :: q] m m' → Φ z m') : hX12_parts_13 f Φ f q 0 0 m := by
  have hN : N ≤ 60 := H.2.2.2.1
  have key : ∀ (k n : Nat) (P : Nat → Bool) (m1 : aj_M), n ≤ N → N - n < k → zo [24 :: q, 25 :: q, 26 :: q] m m1 → (∀ v, v < n → (P v = true ↔ ∀ r, r < v → ¬ zRc N L a b r v)) → hX12_parts_13 f Φ k q (zcnt P n) n m1 := by
    intro k
    induction k with
    | zero => intro n P m1 h1 h2; omega
    | succ k ih =>
      intro n P m1 h1 h2 hz hP
      have Hm := nR_zo hz H
      have hcl := zcnt_le (P := P) n
      have hcnt : ∀ q : Bool, zcnt (fun v => if v = n then q else P v) n = zcnt P n := fun q => zcnt_ext n (fun v hv => if_neg (by omega))
      unfold hX12_parts_13
      rw [Hm.2.1]
      refine ⟨⟨by omega, by omega⟩, ⟨by omega, by omega⟩, fun c => hK _ _ ⟨P, fun v hv => hP v (by omega), by rw [show n = N by omega]⟩ hz, fun c => ?_⟩
      refine pX12_laysFar Hm (by omega) hf ?_
      intro t d vi F br qu x HB HC Hq HF
      have hz2 : zo [24 :: q, 25 :: q, 26 :: q] m (rB m1 q F br qu) := zo_tr hz zo_rB
      have htN := (zBI_lt HB).1
      -- the test of this node
      have tst : ∀ (k' i : Nat) (v4 : Int), i ≤ t → t - i < k' → (v4 = 0 ∨ v4 = 1) → (v4 = 1 ↔ ∀ j, j < i → n ≤ x j) → hX12_parts_33 f Φ (fun q0 v1 v2 m => hX12_parts_13 f Φ k q0 v1 v2 m) k' q (zcnt P n) n t v4 i (rB m1 q F br qu) := by
        intro k'
        induction k' with
        | zero => intro i v4 h3 h4; omega
        | succ k' ih' =>
          intro i v4 h3 h4 h5 h6
          unfold hX12_parts_33
          refine ⟨⟨by omega, by omega⟩, ⟨by omega, by omega⟩, fun c2 => ⟨⟨by omega, by omega⟩, fun c3 => ?_, fun c3 => ?_⟩, fun c2 => ?_⟩
          · have := ih (n + 1) (fun v => if v = n then false else P v) _ (by omega) (by omega) hz2 (fun v hv => ?_)
            · have e1 : zcnt (fun v => if v = n then false else P v) (n + 1) = zcnt P n := by
                show zcnt _ n + _ = _
                rw [hcnt]; simp
              rw [e1] at this
              rw [Int.add_zero]
              exact this
            · by_cases e' : v = n
              · subst e'
                simp only [if_true]
                refine ⟨fun h => (by cases h), fun h => ?_⟩
                have h7 : ¬ ∀ j, j < i → v ≤ x j := fun h' => by have := h6.mpr h'; omega
                exfalso
                apply h7
                intro j hj
                rcases Nat.lt_or_ge (x j) v with h8 | h8
                · have h9 := HB.2.2.2.1 j (by omega)
                  exact absurd (zRc_sym ((zBC_R HC h9.1).mp h9.2.1)) (h (x j) h8)
                · exact h8
              · rw [if_neg e']; exact hP v (by omega)
          · have := ih (n + 1) (fun v => if v = n then true else P v) _ (by omega) (by omega) hz2 (fun v hv => ?_)
            · have e1 : zcnt (fun v => if v = n then true else P v) (n + 1) = zcnt P n + 1 := by
                show zcnt _ n + _ = _
                rw [hcnt]; simp
              rw [e1] at this
              exact this
            · by_cases e' : v = n
              · subst e'
                simp only [if_true]
                refine ⟨fun _ r hr h => ?_, fun _ => trivial⟩
                have h7 := h6.mp (by omega)
                have hrN : r < N := by omega
                obtain ⟨j, hj, e2⟩ := HB.2.2.2.2.1 r hrN ((zBC_R HC hrN).mpr (zRc_sym h))
                have := h7 j (by omega)
                omega
              · rw [if_neg e']; exact hP v (by omega)
          · rw [Int.toNat_natCast, rB_r26, Hq i (by omega)]
            have hxi := (HB.2.2.2.1 i (by omega)).1
            refine ⟨⟨by omega, by omega⟩, ⟨by omega, by omega⟩, ⟨by omega, by omega⟩, fun c3 => ?_, fun c3 => ?_⟩
            · have e0 : aj_and v4 0 = 0 := by rcases h5 with rfl | rfl <;> decide
              rw [e0]
              refine ih' (i + 1) 0 (by omega) (by omega) (Or.inl rfl) ⟨fun h => (by cases h), fun h => ?_⟩
              have := h i (by omega)
              omega
            · have e0 : aj_and v4 1 = v4 := by rcases h5 with rfl | rfl <;> decide
              rw [e0]
              refine ih' (i + 1) v4 (by omega) (by omega) h5 ⟨fun h j hj => ?_, fun h => h6.mpr (fun j hj => h j (by omega))⟩
              by_cases e' : j = i
              · subst e'; omega
              · exact h6.mp h j (by omega)
      exact tst f 0 1 (by omega) (by omega) (Or.inr rfl) ⟨fun _ j hj => by omega, fun _ => rfl⟩
  exact key f 0 (fun _ => false) m (by omega) (by omega) zo_refl (fun v hv => by omega)
/-! two colours -/
def zOd (N L : Nat) (a b : Nat → Nat) (n : Nat) : Prop := ∃ (c : Nat → Nat → Int) (d vi lb : Nat → Int), zBC N zNo (zJ N L a b) c n d vi lb ∧ ∃ l, l < L ∧ 0 ≤ d (a l) ∧ (d (a l) - d (b l)) % 2 = 0
def zTwo (N L : Nat) (a b : Nat → Nat) (z : Int) : Prop := (z = 0 ∧ ∃ n, n < N ∧ zOd N L a b n) ∨ (z = 1 ∧ ∀ n, n < N → ¬ zOd N L a b n)
theorem zTwo_u {N L : Nat} {a b : Nat → Nat} {z z' : Int} (h : zTwo N L a b z) (h' : zTwo N L a b z') : z = z' := by
  rcases h with ⟨rfl, n, h1, h2⟩ | ⟨rfl, h⟩
  · rcases h' with ⟨rfl, _⟩ | ⟨rfl, h'⟩
    · rfl
    · exact absurd h2 (h' n h1)
  · rcases h' with ⟨rfl, n, h1, h2⟩ | ⟨rfl, _⟩
    · exact absurd h2 (h n h1)
    · rfl
theorem zcol {N L : Nat} {a b : Nat → Nat} {cl : Nat → Nat → Int} {r : Nat} {d vi lb : Nat → Int} (H : zBC N zNo (zJ N L a b) cl r d vi lb) {col : Nat → Bool} (hc : ∀ l, l < L → col (a l) ≠ col (b l)) : ∀ (k v : Nat), v < N → d v = k → col v = (if k % 2 = 0 then col r else !col r) := by
  intro k v hv e
  obtain ⟨c, le, c0, ck, cj, _⟩ := zpath H k v hv e
  have : ∀ i, i ≤ k → col (c i) = (if i % 2 = 0 then col r else !col r) := by
    intro i
    induction i with
    | zero => intro _; rw [c0]; simp
    | succ i ih =>
      intro hi
      have h1 := ih (by omega)
      have hj := cj i (by omega)
      have h2 : col (c i) ≠ col (c (i + 1)) := by
        have := hc _ hj.1
        rcases hj.2.2.2 with ⟨e1, e2⟩ | ⟨e1, e2⟩
        · rwa [e1, e2] at this
        · rw [e1, e2] at this; exact Ne.symm this
      by_cases h3 : i % 2 = 0
      · rw [if_pos h3] at h1
        rw [if_neg (by omega), ← h1]
        cases h4 : col (c i) <;> cases h5 : col (c (i + 1)) <;> simp_all
      · rw [if_neg h3] at h1
        rw [if_pos (by omega)]
        cases h4 : col (c i) <;> cases h5 : col (c (i + 1)) <;> simp_all
  rw [← ck]; exact this k (Nat.le_refl _)
theorem pX5_isTwoColoured {f : Nat} {Φ : Int → aj_M → Prop} {q : List Nat} {m : aj_M} {N L : Nat} {a b s e : Nat → Nat} (H : nC m q N L a b s e) (h16 : m q 16 = 0) (hvi : ∀ k, rI (m (12 :: q) k)) (hf : 300 ≤ f) (hK : ∀ (z : Int) (m' : aj_M), zTwo N L a b z → zN q m m' → Φ z m') : wX5_isTwoColoured f Φ q m := by
  have hN : N ≤ 60 := H.2.2.2.1
  have hL : L ≤ 144 := H.2.2.2.2.1
  have hab := H.2.2.2.2.2.1.1
  unfold wX5_isTwoColoured
  rintro _ rfl
  have key : ∀ (k n : Nat) (col : Nat → Bool) (m1 : aj_M) (B : Nat), n ≤ N → N - n < k → zN q m m1 → m1 q 15 = B → B < 2 ^ 60 → (∀ v, v < N → (B.testBit v = true ↔ ∃ r, r < n ∧ zRc N L a b r v)) → (∀ l, l < L → B.testBit (a l) = true → col (a l) ≠ col (b l)) → hX5_isTwoColoured_7 f Φ k q n m1 := by
    intro k
    induction k with
    | zero => intro n col m1 B h1 h2; omega
    | succ k ih =>
      intro n col m1 B h1 h2 hz hB hB2 hBv hcol
      have Hm := zN_nC hz H
      unfold hX5_isTwoColoured_7
      rw [Hm.1, hB, zl_bit (by omega) (by omega)]
      refine ⟨⟨by omega, by omega⟩, ⟨by omega, by omega⟩, fun c => hK _ _ (Or.inr ⟨rfl, fun n' hn' hod => ?_⟩) hz, fun c => ?_⟩
      · obtain ⟨cl, d, vi, lb, HC, l, hl, hd, hp⟩ := hod
        have hall : ∀ l, l < L → col (a l) ≠ col (b l) := fun l hl => hcol l hl ((hBv (a l) (hab l hl).1).mpr ⟨a l, by have := (hab l hl).1; omega, zRc_refl⟩)
        have hd2 := (HC.2.2.2 l (a l) (b l) ⟨hl, (hab l hl).1, (hab l hl).2, Or.inl ⟨rfl, rfl⟩⟩ hd rfl).1
        have e1 := zcol HC hall (d (a l)).toNat (a l) (hab l hl).1 (by omega)
        have e2 := zcol HC hall (d (b l)).toNat (b l) (hab l hl).2 (by omega)
        have e3 : (d (a l)).toNat % 2 = (d (b l)).toNat % 2 := by omega
        rw [e3] at e1
        exact hall l hl (e1.trans e2.symm)
      · by_cases hb : B.testBit n = true
        · rw [if_pos hb]
          refine ⟨by decide, fun _ => ih (n + 1) col m1 B (by omega) (by omega) hz hB hB2 (fun v hv => ?_) hcol, fun c => absurd c (by decide)⟩
          obtain ⟨r, hr, hrn⟩ := (hBv n (by omega)).mp hb
          rw [hBv v hv]
          constructor
          · rintro ⟨r', h3, h4⟩; exact ⟨r', by omega, h4⟩
          · rintro ⟨r', h3, h4⟩
            by_cases e' : r' = n
            · subst e'; exact ⟨r, hr, zRc_tr hrn h4⟩
            · exact ⟨r', by omega, h4⟩
        · rw [if_neg hb]
          refine ⟨by decide, fun c => absurd rfl c, fun _ => ?_⟩
          refine pX5_spread Hm (B := 0) (by rw [hz.2.1 16 (by decide)]; exact h16) (by decide) (by omega) hf (hz.2.2 hvi) ?_
          intro t d vi br qu x HB HC Hq Hvi
          rw [z0bit] at HB HC
          have hlt := (zBI_lt HB).2
          refine pX5_markReached (N := N) (x := x) (fun i hi => by rw [nB_r14]; exact Hq i hi) (fun i hi => (HB.2.2.2.1 i hi).1) (zBI_lt HB).1 hN (by rw [nB_r0]; exact hB) hB2 hf ?_
          intro m2 B' hz2 h10 hB' hB2' hBv'
          rw [nB_r10] at h10
          have hz3 : zN q m m2 := zN_tr hz (zN_tr (zN_nB Hvi) hz2)
          have Hm2 := zN_nC hz3 H
          -- the links
          refine zfor (H := fun kk l (_ : Nat) => hX5_isTwoColoured_39 f Φ (fun q0 v1 m => hX5_isTwoColoured_7 f Φ k q0 v1 m) kk q n l m2) (N := L) (fun l _ => ∀ j, j < l → 0 ≤ d (a j) → (d (a j) - d (b j)) % 2 ≠ 0) ?_ f 0 0 (by omega) (by omega) (fun j hj => by omega)
          intro kk l _ hl hI hnx
          unfold hX5_isTwoColoured_39
          rw [Hm2.2.1]
          refine ⟨⟨by omega, by omega⟩, ⟨by omega, by omega⟩, fun c => ?_, fun c => ?_⟩
          · refine ih (n + 1) (fun v => if 0 ≤ d v then decide (d v % 2 = 0) else col v) m2 B' (by omega) (by omega) hz3 hB' hB2' (fun v hv => ?_) (fun j hj hBj => ?_)
            · rw [hBv' v, hBv v hv]
              constructor
              · rintro (⟨r', h3, h4⟩ | ⟨i, h3, rfl⟩)
                · exact ⟨r', by omega, h4⟩
                · exact ⟨n, by omega, (zBC_R HC hv).mp (HB.2.2.2.1 i h3).2.1⟩
              · rintro ⟨r', h3, h4⟩
                by_cases e' : r' = n
                · subst e'
                  obtain ⟨i, hi, e2⟩ := HB.2.2.2.2.1 v hv ((zBC_R HC hv).mpr h4)
                  exact Or.inr ⟨i, hi, e2⟩
                · exact Or.inl ⟨r', by omega, h4⟩
            · have hjj : zJ N L a b j (a j) (b j) := ⟨hj, (hab j hj).1, (hab j hj).2, Or.inl ⟨rfl, rfl⟩⟩
              show (if 0 ≤ d (a j) then decide (d (a j) % 2 = 0) else col (a j)) ≠ (if 0 ≤ d (b j) then decide (d (b j) % 2 = 0) else col (b j))
              by_cases hda : 0 ≤ d (a j)
              · have hdb := (HC.2.2.2 j _ _ hjj hda rfl).1
                rw [if_pos hda, if_pos hdb]
                have := hI j (by omega) hda
                intro h
                have h' := decide_eq_decide.mp h
                omega
              · have hdb : ¬ 0 ≤ d (b j) := fun h => hda (HC.2.2.2 j _ _ (zJ_sym hjj) h rfl).1
                rw [if_neg hda, if_neg hdb]
                refine hcol j hj ?_
                rcases (hBv' (a j)).mp hBj with h | ⟨i, hi, e2⟩
                · exact h
                · have := (HB.2.2.2.1 i hi).2.1
                  rw [e2] at this
                  exact absurd this hda
          · have hl' : l < L := by omega
            have h2 := Hm2.2.2.2.2.2.2.1 l hl'
            have hN' := hab l hl'
            have hjl : zJ N L a b l (a l) (b l) := ⟨hl', hN'.1, hN'.2, Or.inl ⟨rfl, rfl⟩⟩
            have da := hlt (a l) hN'.1
            have db := hlt (b l) hN'.2
            rw [Int.toNat_natCast, h2.1, h2.2, h10, Int.toNat_natCast, Int.toNat_natCast]
            have tm : ∀ y : Int, y.tmod 2 = 0 ↔ y % 2 = 0 := by
              intro y
              rw [Int.tmod_eq_emod]
              constructor
              · intro h
                by_cases c : 0 ≤ y ∨ (2 : Int) ∣ y
                · rw [if_pos c] at h; simpa using h
                · rw [if_neg c] at h
                  simp at h
                  omega
              · intro h
                rw [if_pos (Or.inr (by omega))]
                simpa using h
            have tb : ∀ y : Int, -1000 ≤ y → y ≤ 1000 → rI (y.tmod 2) := by
              intro y h1 h2
              rw [Int.tmod_eq_emod]
              split
              · simp; omega
              · simp; omega
            refine ⟨⟨by omega, by omega⟩, ⟨by omega, by omega⟩, ⟨by omega, by omega⟩, fun c2 => hnx (by omega) 0 (fun j hj hd => ?_), fun c2 => ⟨⟨by omega, by omega⟩, ⟨by omega, by omega⟩, ⟨by omega, by omega⟩, tb _ (by omega) (by omega), fun c3 => hnx (by omega) 0 (fun j hj hd => ?_), fun c3 => ?_⟩⟩
            · by_cases ej : j = l
              · subst ej; omega
              · exact hI j (by omega) hd
            · by_cases ej : j = l
              · subst ej; exact fun h => c3 ((tm _).mpr h)
              · exact hI j (by omega) hd
            · exact hK _ _ (Or.inl ⟨rfl, n, by omega, _, d, vi, br, HC, l, hl', by omega, (tm _).mp c3⟩) hz3
  exact key f 0 (fun _ => false) _ 0 (by omega) (by omega) zN_15 (by rw [aj_u_at, if_pos rfl]; rfl) (by decide) (fun v hv => by simp) (fun l hl h => by simp at h)
theorem pX12_twoColours0 {f : Nat} {Φ : Int → aj_M → Prop} {q : List Nat} {m : aj_M} {N L : Nat} {a b : Nat → Nat} (H : nR m q N L a b) (hf : 300 ≤ f) (hK : ∀ (z : Int) (m' : aj_M), zTwo N L a b z → zo [24 :: q, 25 :: q, 26 :: q] m m' → Φ z m') : hX12_twoColours_11 f Φ f q 0 m := by
  have hN : N ≤ 60 := H.2.2.2.1
  have hL : L ≤ 144 := H.2.2.2.2.1
  have hab := H.2.2.2.2.2.1
  refine zfor (H := fun k n s => hX12_twoColours_11 f Φ k q n s) (N := N) (fun n s => zo [24 :: q, 25 :: q, 26 :: q] m s ∧ ∀ n', n' < n → ¬ zOd N L a b n') ?_ f 0 m (by omega) (by omega) ⟨zo_refl, fun n' h => by omega⟩
  rintro k n m1 hn ⟨hz, hI⟩ hnx
  have Hm := nR_zo hz H
  unfold hX12_twoColours_11
  rw [Hm.2.1]
  refine ⟨⟨by omega, by omega⟩, ⟨by omega, by omega⟩, fun c => hK _ _ (Or.inr ⟨rfl, fun n' hn' => hI n' (by omega)⟩) hz, fun c => ?_⟩
  refine pX12_laysFar Hm (by omega) hf ?_
  intro t d vi F br qu x HB HC Hq HF
  have hlt := (zBI_lt HB).2
  have hz2 : zo [24 :: q, 25 :: q, 26 :: q] m (rB m1 q F br qu) := zo_tr hz zo_rB
  refine zfor (H := fun kk l (_ : Nat) => hX12_twoColours_27 f Φ (fun q0 v1 m => hX12_twoColours_11 f Φ k q0 v1 m) kk q n l (rB m1 q F br qu)) (N := L) (fun l _ => ∀ j, j < l → 0 ≤ d (a j) → (d (a j) - d (b j)) % 2 ≠ 0) ?_ f 0 0 (by omega) (by omega) (fun j hj => by omega)
  intro kk l _ hl hI' hnx'
  have Hm2 := rB_nR (d := F) (b' := br) (u := qu) Hm
  unfold hX12_twoColours_27
  rw [Hm2.1]
  refine ⟨⟨by omega, by omega⟩, ⟨by omega, by omega⟩, fun c => ?_, fun c => ?_⟩
  · refine hnx (by omega) _ ⟨hz2, fun n' hn' => ?_⟩
    by_cases e' : n' = n
    · subst e'
      rintro ⟨cl, d', vi', lb', HC', j, hj, hd, hp⟩
      have e1 := zBC_eq HC' HC (hab j hj).1
      have e2 := zBC_eq HC' HC (hab j hj).2
      exact hI' j (by omega) (by omega) (by rw [e1, e2]; exact hp)
    · exact hI n' (by omega)
  · have hl' : l < L := by omega
    have h2 := Hm2.2.2.2.2.2.2 l hl'
    have hN' := hab l hl'
    have hjl : zJ N L a b l (a l) (b l) := ⟨hl', hN'.1, hN'.2, Or.inl ⟨rfl, rfl⟩⟩
    have da := hlt (a l) hN'.1
    have db := hlt (b l) hN'.2
    have fa := HF (a l) hN'.1
    have fb := HF (b l) hN'.2
    rw [Int.toNat_natCast, h2.1, h2.2, rB_r24, Int.toNat_natCast, Int.toNat_natCast]
    refine ⟨⟨by omega, by omega⟩, ⟨by omega, by omega⟩, ?_, fun c2 => hnx' (by omega) 0 (fun j hj hd => ?_), fun c2 => ?_⟩
    · rw [fa]; split <;> exact ⟨by omega, by omega⟩
    · by_cases ej : j = l
      · subst ej; rw [c2, if_neg (by omega)] at fa; omega
      · exact hI' j (by omega) hd
    · have hda : 0 ≤ d (a l) := by
        rcases (by omega : d (a l) < 0 ∨ 0 ≤ d (a l)) with h | h
        · rw [if_pos h] at fa; exact absurd fa c2
        · exact h
      have hdb := (HC.2.2.2 l _ _ hjl hda rfl).1
      rw [if_neg (by omega)] at fa fb
      rw [fa, fb]
      refine ⟨⟨by omega, by omega⟩, ⟨by omega, by omega⟩, ⟨by omega, by omega⟩, ⟨by omega, by omega⟩, ⟨by omega, by omega⟩, ⟨by omega, by omega⟩, ⟨by omega, by omega⟩, ⟨by omega, by omega⟩, fun c3 => hnx' (by omega) 0 (fun j hj hd => ?_), fun c3 => ?_⟩
      · by_cases ej : j = l
        · subst ej; omega
        · exact hI' j (by omega) hd
      · exact hK _ _ (Or.inl ⟨rfl, n, by omega, _, d, vi, br, HC, l, hl', hda, by omega⟩) hz2
