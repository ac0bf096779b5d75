/-! THE CLASS'S NETWORK, AND SPREADING OVER IT -/
def zdeg (L : Nat) (a b : Nat → Nat) (n : Nat) : Nat := zcnt (fun l => decide (a l = n)) L + zcnt (fun l => decide (b l = n)) L
def nE (N L : Nat) (a b s e : Nat → Nat) : Prop :=
  (∀ l, l < L → a l < N ∧ b l < N) ∧
  (∀ n, n < N → s n ≤ s (n + 1) ∧ s (n + 1) ≤ 288) ∧
  (∀ n k, n < N → s n ≤ k → k < s (n + 1) → e k < L ∧ (a (e k) = n ∨ b (e k) = n)) ∧
  (∀ l u v, zJ N L a b l u v → ∃ k, s u ≤ k ∧ k < s (u + 1) ∧ e k = l) ∧
  (∀ n k k', n < N → s n ≤ k → k < k' → k' < s (n + 1) → e k < e k' ∨ (e k = e k' ∧ a (e k) = n ∧ b (e k) = n)) ∧
  (∀ n, n < N → s (n + 1) = s n + zdeg L a b n)
def nC (m : aj_M) (q : List Nat) (N L : Nat) (a b s e : Nat → Nat) : Prop :=
  m q 0 = N ∧ m q 1 = L ∧ 1 ≤ N ∧ N ≤ 60 ∧ L ≤ 144 ∧ nE N L a b s e ∧
  (∀ l, l < L → m (2 :: q) l = a l ∧ m (3 :: q) l = b l) ∧
  (∀ n, n ≤ N → m (8 :: q) n = s n) ∧
  (∀ n k, n < N → s n ≤ k → k < s (n + 1) → m (9 :: q) k = e k)
theorem nC_of {m m' : aj_M} {q : List Nat} {N L : Nat} {a b s e : Nat → Nat} (H : nC m q N L a b s e) (h0 : m' q 0 = m q 0) (h1 : m' q 1 = m q 1) (h2 : m' (2 :: q) = m (2 :: q)) (h3 : m' (3 :: q) = m (3 :: q)) (h8 : m' (8 :: q) = m (8 :: q)) (h9 : m' (9 :: q) = m (9 :: q)) : nC m' q N L a b s e := by
  unfold nC
  rw [h0, h1, h2, h3, h8, h9]
  exact H
theorem zrI_st {g : Nat → Int} {j : Nat} {x : Int} (h : ∀ k, rI (g k)) (hx : rI x) : ∀ k, rI (st g j x k) := by
  intro k
  simp only [st]
  split
  · exact hx
  · exact h k
theorem zt1 {u : Nat} : ((u : Int) + 1).toNat = u + 1 := by omega
theorem zt2 {u : Nat} : ((u : Int) + 2).toNat = u + 2 := by omega
def nB (m : aj_M) (q : List Nat) (d v b u : Nat → Int) : aj_M := aj_ur (aj_ur (aj_ur (aj_ur m (10 :: q) d) (12 :: q) v) (13 :: q) b) (14 :: q) u
theorem nB_off {m : aj_M} {q p : List Nat} {d v b u : Nat → Int} (h10 : p ≠ 10 :: q) (h12 : p ≠ 12 :: q) (h13 : p ≠ 13 :: q) (h14 : p ≠ 14 :: q) : nB m q d v b u p = m p := by
  simp [nB, zr_ur, h10, h12, h13, h14]
theorem nB_r0 {m : aj_M} {q : List Nat} {d v b u : Nat → Int} : nB m q d v b u q = m q := nB_off (by simp) (by simp) (by simp) (by simp)
theorem nB_r2 {m : aj_M} {q : List Nat} {d v b u : Nat → Int} : nB m q d v b u (2 :: q) = m (2 :: q) := nB_off (by simp) (by simp) (by simp) (by simp)
theorem nB_r3 {m : aj_M} {q : List Nat} {d v b u : Nat → Int} : nB m q d v b u (3 :: q) = m (3 :: q) := nB_off (by simp) (by simp) (by simp) (by simp)
theorem nB_r8 {m : aj_M} {q : List Nat} {d v b u : Nat → Int} : nB m q d v b u (8 :: q) = m (8 :: q) := nB_off (by simp) (by simp) (by simp) (by simp)
theorem nB_r9 {m : aj_M} {q : List Nat} {d v b u : Nat → Int} : nB m q d v b u (9 :: q) = m (9 :: q) := nB_off (by simp) (by simp) (by simp) (by simp)
theorem nB_r10 {m : aj_M} {q : List Nat} {d v b u : Nat → Int} : nB m q d v b u (10 :: q) = d := by simp [nB, zr_ur]
theorem nB_r12 {m : aj_M} {q : List Nat} {d v b u : Nat → Int} : nB m q d v b u (12 :: q) = v := by simp [nB, zr_ur]
theorem nB_r13 {m : aj_M} {q : List Nat} {d v b u : Nat → Int} : nB m q d v b u (13 :: q) = b := by simp [nB, zr_ur]
theorem nB_r14 {m : aj_M} {q : List Nat} {d v b u : Nat → Int} : nB m q d v b u (14 :: q) = u := by simp [nB, zr_ur]
theorem nB_w10 {m : aj_M} {q : List Nat} {d v b u : Nat → Int} {j : Nat} {x : Int} : aj_u (nB m q d v b u) (10 :: q) j x = nB m q (st d j x) v b u := by simp [nB, zu_push]
theorem nB_w12 {m : aj_M} {q : List Nat} {d v b u : Nat → Int} {j : Nat} {x : Int} : aj_u (nB m q d v b u) (12 :: q) j x = nB m q d (st v j x) b u := by simp [nB, zu_push]
theorem nB_w13 {m : aj_M} {q : List Nat} {d v b u : Nat → Int} {j : Nat} {x : Int} : aj_u (nB m q d v b u) (13 :: q) j x = nB m q d v (st b j x) u := by simp [nB, zu_push]
theorem nB_w14 {m : aj_M} {q : List Nat} {d v b u : Nat → Int} {j : Nat} {x : Int} : aj_u (nB m q d v b u) (14 :: q) j x = nB m q d v b (st u j x) := by simp [nB, zu_push]
theorem nB_nC {m : aj_M} {q : List Nat} {N L : Nat} {a b s e : Nat → Nat} {d v b' u : Nat → Int} (H : nC m q N L a b s e) : nC (nB m q d v b' u) q N L a b s e := nC_of H (by rw [nB_r0]) (by rw [nB_r0]) nB_r2 nB_r3 nB_r8 nB_r9
theorem nB_self {m : aj_M} {q : List Nat} : nB m q (m (10 :: q)) (m (12 :: q)) (m (13 :: q)) (m (14 :: q)) = m := by
  funext p k
  simp only [nB, aj_ur]
  split
  · next h => subst h; rfl
  · split
    · next h => subst h; rfl
    · split
      · next h => subst h; rfl
      · split
        · next h => subst h; rfl
        · rfl
theorem nB_nB {m : aj_M} {q : List Nat} {d v b u d' v' b' u' : Nat → Int} : nB (nB m q d v b u) q d' v' b' u' = nB m q d' v' b' u' := by
  funext p k
  simp only [nB, aj_ur]
  grind
theorem pX5_otherEnd {f : Nat} {Φ : Int → aj_M → Prop} {q : List Nat} {N L : Nat} {a b : Nat → Nat} {l u : Nat} {m : aj_M} (hL : L ≤ 144) (hN : N ≤ 60) (h2 : ∀ l, l < L → m (2 :: q) l = a l ∧ m (3 :: q) l = b l) (hab : ∀ l, l < L → a l < N ∧ b l < N) (hl : l < L) (hu : a l = u ∨ b l = u) (h : ∀ v, zJ N L a b l u v → Φ (v : Int) m) : wX5_otherEnd f Φ q l u m := by
  have e := h2 l hl
  have e' := hab l hl
  unfold wX5_otherEnd
  rw [Int.toNat_natCast, e.1, e.2]
  refine ⟨⟨by omega, by omega⟩, ⟨by omega, by omega⟩, ⟨by omega, by omega⟩, fun c => ⟨⟨by omega, by omega⟩, ?_⟩, fun c => ⟨⟨by omega, by omega⟩, ?_⟩⟩
  · exact h _ ⟨hl, by omega, e'.1, by omega⟩
  · exact h _ ⟨hl, by omega, e'.2, by omega⟩
theorem sp_in {f : Nat} {Φ : Int → aj_M → Prop} {K : List Nat → Int → Int → Int → aj_M → Prop} {q : List Nat} {m : aj_M} {N L : Nat} {a b s e : Nat → Nat} (H : nC m q N L a b s e) {B : Nat} (hB : m q 16 = B) (hB2 : B < 2 ^ 63) {r h u : Nat} (hu : u < N)
    (hK : ∀ (t' : Nat) (d' vi' br' qu' : Nat → Int) (x' : Nat → Nat), zBI N B.testBit (zJ N L a b) (fun _ v => v) r t' h d' vi' br' x' → zPR B.testBit (zJ N L a b) (h + 1) d' x' → h < t' → (∀ i, i < t' → qu' i = x' i) → (∀ k, rI (vi' k)) → K q r t' ((h : Int) + 1) (nB m q d' vi' br' qu')) :
    ∀ (k i t : Nat) (d vi br qu : Nat → Int) (x : Nat → Nat), s u ≤ i → i ≤ s (u + 1) → s (u + 1) - i < k → zBI N B.testBit (zJ N L a b) (fun _ v => v) r t h d vi br x → zPR B.testBit (zJ N L a b) h d x → h < t → x h = u → (∀ j, s u ≤ j → j < i → ∀ v, zJ N L a b (e j) u v → B.testBit v = false → 0 ≤ d v ∧ d v ≤ d u + 1) → (∀ i, i < t → qu i = x i) → (∀ k, rI (vi k)) → hX5_spread_68 f Φ K k q r t h u i (nB m q d vi br qu) := by
  obtain ⟨g0, g1, gN1, gN, gL, gE, g2, g8, g9⟩ := H
  obtain ⟨e1, e2, e3, e4, e5, e6⟩ := gE
  intro k
  induction k with
  | zero => intro i t d vi br qu x h1 h2 h3; omega
  | succ k ih =>
    intro i t d vi br qu x h1 h2 h3 HB HP ht hx Hin Hq Hvi
    have hs := e2 u hu
    have hlt := zBI_lt HB
    have hrN := HB.2.2.2.2.2.2.2.1.1
    unfold hX5_spread_68
    simp only [nB_r8, nB_r9, zt1, Int.toNat_natCast, g8 (u + 1) (by omega)]
    refine ⟨⟨by omega, by omega⟩, ⟨by omega, by omega⟩, ⟨by omega, by omega⟩, fun c => ?_, fun c => ⟨⟨by omega, by omega⟩, ?_⟩⟩
    · refine hK t d vi br qu x HB ?_ ht Hq Hvi
      intro j hj l v hjn hbv
      by_cases ej : j = h
      · subst ej
        rw [hx] at hjn ⊢
        obtain ⟨k', k1, k2, k3⟩ := e4 l u v hjn
        exact Hin k' k1 (by omega) v (by rw [k3]; exact hjn) hbv
      · exact HP j (by omega) l v hjn hbv
    · rw [g9 u i hu h1 (by omega)]
      have hei := e3 u i hu h1 (by omega)
      refine pX5_otherEnd gL gN (m := nB m q d vi br qu) (fun l hl => by rw [nB_r2, nB_r3]; exact g2 l hl) e1 hei.1 hei.2 ?_
      intro v hjn
      have hvN := hjn.2.2.1
      have hdv := hlt.2 v hvN
      have hdu : 0 ≤ d u ∧ d u < N := by
        have h1' := (HB.2.2.2.1 h ht).2.1
        rw [hx] at h1'
        exact ⟨h1', (hlt.2 u hu).2⟩
      have Hin' : ∀ d' : Nat → Int, (0 ≤ d' v ∧ d' v ≤ d u + 1 ∨ B.testBit v = true) → d' u = d u → (∀ w, 0 ≤ d w → d' w = d w) → ∀ j, s u ≤ j → j < i + 1 → ∀ w, zJ N L a b (e j) u w → B.testBit w = false → 0 ≤ d' w ∧ d' w ≤ d' u + 1 := by
        intro d' hv' hu' hd' j j1 j2 w hjw hbw
        rw [hu']
        by_cases ej : j = i
        · subst ej
          have : w = v := by
            have a1 := hjn.2.2.2
            have a2 := hjw.2.2.2
            omega
          subst this
          rcases hv' with hv' | hv'
          · exact hv'
          · rw [hv'] at hbw; cases hbw
        · have := Hin j j1 (by omega) w hjw hbw
          rw [hd' w this.1]
          exact this
      simp only [nB_r10, nB_r0, Int.toNat_natCast, hB]
      rw [zl_bit hB2 (by omega)]
      refine ⟨⟨by omega, by omega⟩, ⟨by omega, by omega⟩, fun c2 => ?_, fun c2 => ⟨?_, fun c3 => ?_, fun c3 => ⟨⟨by omega, by omega⟩, fun c4 => ?_, fun c4 => ?_⟩⟩⟩
      · refine ih (i + 1) t d vi br qu x (by omega) (by omega) (by omega) HB HP ht hx (Hin' d ?_ rfl (fun _ _ => rfl)) Hq Hvi
        by_cases hbv : B.testBit v = true
        · right; exact hbv
        · left
          refine ⟨c2, ?_⟩
          obtain ⟨jx, hjx, rfl⟩ := HB.2.2.2.2.1 v hvN c2
          rw [← hx]
          exact HB.2.2.2.2.2.2.1 jx ht hjx
      · split <;> exact ⟨by omega, by omega⟩
      · have hbv : B.testBit v = true := by
          by_cases hbv : B.testBit v = true
          · exact hbv
          · rw [if_neg hbv] at c3; exact absurd rfl c3
        exact ih (i + 1) t d vi br qu x (by omega) (by omega) (by omega) HB HP ht hx (Hin' d (Or.inr hbv) rfl (fun _ _ => rfl)) Hq Hvi
      · have := (zBI_push HB ht (by rw [hx]; exact hjn) (by
          by_cases hbv : B.testBit v = true
          · rw [if_pos hbv] at c3; cases c3
          · simpa using hbv) (by omega)).1
        omega
      · have hbv : B.testBit v = false := by
          by_cases hbv : B.testBit v = true
          · rw [if_pos hbv] at c3; cases c3
          · simpa using hbv
        obtain ⟨p1, p2, p3⟩ := zBI_push HB ht (by rw [hx]; exact hjn) hbv (by omega)
        have huv : u ≠ v := by rintro rfl; omega
        have hgo : ∀ z : Int, z = (if x h = r then ((v : Nat) : Int) else br (x h)) → hX5_spread_68 f Φ K k q r ((t : Int) + 1) h u ((i : Int) + 1) (nB m q (st d v (d u + 1)) (st vi v (e i)) (st br v z) (st qu t v)) := by
          rintro z rfl
          rw [hx] at p3 ⊢
          refine ih (i + 1) (t + 1) _ _ _ _ (sn x t v) (by omega) (by omega) (by omega) p3 (zPR_push HB HP (by omega) (by omega)) (by omega) (by rw [sn_ne (by omega)]; exact hx) (Hin' _ (Or.inl ?_) (st_ne huv) (fun w hw => st_ne (by rintro rfl; omega))) ?_ (zrI_st Hvi ⟨by omega, by omega⟩)
          · rw [st_at]; omega
          · intro j hj
            by_cases ej : j = t
            · subst ej; rw [st_at, sn_at]
            · rw [st_ne ej, sn_ne ej]; exact Hq j (by omega)
        refine ⟨⟨by omega, by omega⟩, ⟨by omega, by omega⟩, ?_⟩
        rintro _ rfl
        rw [nB_w10]
        simp only [nB_r9, nB_r10, Int.toNat_natCast]
        rw [g9 u i hu h1 (by omega)]
        refine ⟨⟨by omega, by omega⟩, ⟨by omega, by omega⟩, ?_⟩
        rintro _ rfl
        rw [nB_w12]
        simp only [nB_r13, Int.toNat_natCast]
        refine ⟨⟨by omega, by omega⟩, ⟨by omega, by omega⟩, fun c5 => ⟨⟨by omega, by omega⟩, ⟨by omega, by omega⟩, ?_⟩, fun c5 => ⟨⟨by omega, by omega⟩, ?_⟩⟩
        · rintro _ rfl
          rw [nB_w13]
          refine ⟨⟨by omega, by omega⟩, ?_⟩
          rintro _ rfl
          rw [nB_w14]
          exact hgo _ (by rw [hx, if_neg (by omega)])
        · rintro _ rfl
          rw [nB_w13]
          refine ⟨⟨by omega, by omega⟩, ?_⟩
          rintro _ rfl
          rw [nB_w14]
          exact hgo _ (by rw [hx, if_pos (by omega)])
theorem sp_out {f : Nat} {Φ : Int → aj_M → Prop} {q : List Nat} {m : aj_M} {N L : Nat} {a b s e : Nat → Nat} (H : nC m q N L a b s e) {B : Nat} (hB : m q 16 = B) (hB2 : B < 2 ^ 63) {r : Nat} (hf : 300 ≤ f)
    (hK : ∀ (t : Nat) (d vi br qu : Nat → Int) (x : Nat → Nat), zBI N B.testBit (zJ N L a b) (fun _ v => v) r t t d vi br x → zBC N B.testBit (zJ N L a b) (fun _ v => v) r d vi br → (∀ i, i < t → qu i = x i) → (∀ k, rI (vi k)) → Φ t (nB m q d vi br qu)) :
    ∀ (k h t : Nat) (d vi br qu : Nat → Int) (x : Nat → Nat), N - h < k → zBI N B.testBit (zJ N L a b) (fun _ v => v) r t h d vi br x → zPR B.testBit (zJ N L a b) h d x → (∀ i, i < t → qu i = x i) → (∀ k, rI (vi k)) → hX5_spread_40 f Φ k q r t h (nB m q d vi br qu) := by
  intro k
  induction k with
  | zero => intro h t d vi br qu x h1; omega
  | succ k ih =>
    intro h t d vi br qu x h1 HB HP Hq Hvi
    have hlt := zBI_lt HB
    have hN : N ≤ 60 := H.2.2.2.1
    have hht := HB.1
    unfold hX5_spread_40
    refine ⟨⟨by omega, by omega⟩, ⟨by omega, by omega⟩, fun c => ?_, fun c => ⟨⟨by omega, by omega⟩, fun c2 => ?_, fun c2 => ?_⟩⟩
    · have : h = t := by omega
      subst this
      exact hK h d vi br qu x HB (zBI_end HB HP) Hq Hvi
    · omega
    · have hxh := (HB.2.2.2.1 h (by omega)).1
      simp only [nB_r14, nB_r8, Int.toNat_natCast, Hq h (by omega)]
      refine ⟨⟨by omega, by omega⟩, ⟨by omega, by omega⟩, ?_⟩
      rw [H.2.2.2.2.2.2.2.1 (x h) (by omega)]
      have hs := H.2.2.2.2.2.1.2.1 (x h) hxh
      refine sp_in H hB hB2 hxh ?_ f (s (x h)) t d vi br qu x (Nat.le_refl _) hs.1 (by omega) HB HP (by omega) rfl (fun j j1 j2 => by omega) Hq Hvi
      intro t' d' vi' br' qu' x' HB' HP' ht' Hq' Hvi'
      exact ih (h + 1) t' d' vi' br' qu' x' (by omega) (zBI_next HB' ht') HP' Hq' Hvi'
theorem pX5_spread {f : Nat} {Φ : Int → aj_M → Prop} {q : List Nat} {m : aj_M} {N L : Nat} {a b s e : Nat → Nat} (H : nC m q N L a b s e) {B : Nat} (hB : m q 16 = B) (hB2 : B < 2 ^ 63) {r : Nat} (hr : r < N) (hf : 300 ≤ f) (hvi : ∀ k, rI (m (12 :: q) k))
    (hK : ∀ (t : Nat) (d vi br qu : Nat → Int) (x : Nat → Nat), zBI N B.testBit (zJ N L a b) (fun _ v => v) r t t d vi br x → zBC N B.testBit (zJ N L a b) (fun _ v => v) r d vi br → (∀ i, i < t → qu i = x i) → (∀ k, rI (vi k)) → Φ t (nB m q d vi br qu)) : wX5_spread f Φ q r m := by
  have hN : N ≤ 60 := H.2.2.2.1
  unfold wX5_spread
  refine pJ7_fill (by omega) (by decide) ?_
  have e0 : aj_ur m (10 :: q) (fun k => if k < 60 then -1 else m (10 :: q) k) = nB m q (fun k => if k < 60 then -1 else m (10 :: q) k) (m (12 :: q)) (m (13 :: q)) (m (14 :: q)) := by
    funext p k
    simp only [nB, aj_ur]
    grind
  rw [e0]
  refine ⟨⟨by omega, by omega⟩, ?_⟩
  rintro _ rfl
  rw [nB_w10]
  refine ⟨⟨by omega, by omega⟩, ?_⟩
  rintro _ rfl
  rw [nB_w12]
  refine ⟨⟨by omega, by omega⟩, ?_⟩
  rintro _ rfl
  rw [nB_w13]
  rintro _ rfl
  rw [nB_w14]
  simp only [Int.toNat_natCast, Int.toNat_zero]
  refine sp_out H hB hB2 hf hK f 0 1 _ _ _ _ (fun _ => r) (by omega) (zBI_first hr (fun v hv => ?_) st_at rfl st_at) (fun i hi => by omega) (fun i hi => ?_) (zrI_st hvi (by decide))
  · simp only [st]
    by_cases e : v = r
    · rw [if_pos e, if_pos e]
    · rw [if_neg e, if_neg e, if_pos (by omega)]
  · rw [show i = 0 by omega, st_at]
