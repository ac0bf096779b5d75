/-! THE REFERENCE'S NETWORK, AND SPREADING OVER IT -/
def nR (m : aj_M) (q : List Nat) (N L : Nat) (a b : Nat → Nat) : Prop :=
  m q 22 = L ∧ m q 23 = N ∧ 1 ≤ N ∧ N ≤ 60 ∧ L ≤ 144 ∧ (∀ l, l < L → a l < N ∧ b l < N) ∧ (∀ l, l < L → m (18 :: q) l = a l ∧ m (19 :: q) l = b l)
theorem nR_of {m m' : aj_M} {q : List Nat} {N L : Nat} {a b : Nat → Nat} (H : nR m q N L a b) (h22 : m' q 22 = m q 22) (h23 : m' q 23 = m q 23) (h18 : m' (18 :: q) = m (18 :: q)) (h19 : m' (19 :: q) = m (19 :: q)) : nR m' q N L a b := by
  unfold nR
  rw [h22, h23, h18, h19]
  exact H
def rB (m : aj_M) (q : List Nat) (d b u : Nat → Int) : aj_M := aj_ur (aj_ur (aj_ur m (24 :: q) d) (25 :: q) b) (26 :: q) u
theorem rB_off {m : aj_M} {q p : List Nat} {d b u : Nat → Int} (h10 : p ≠ 24 :: q) (h12 : p ≠ 25 :: q) (h13 : p ≠ 26 :: q) : rB m q d b u p = m p := by
  simp [rB, zr_ur, h10, h12, h13]
theorem rB_r0 {m : aj_M} {q : List Nat} {d b u : Nat → Int} : rB m q d b u q = m q := rB_off (by simp) (by simp) (by simp)
theorem rB_r18 {m : aj_M} {q : List Nat} {d b u : Nat → Int} : rB m q d b u (18 :: q) = m (18 :: q) := rB_off (by simp) (by simp) (by simp)
theorem rB_r19 {m : aj_M} {q : List Nat} {d b u : Nat → Int} : rB m q d b u (19 :: q) = m (19 :: q) := rB_off (by simp) (by simp) (by simp)
theorem rB_r24 {m : aj_M} {q : List Nat} {d b u : Nat → Int} : rB m q d b u (24 :: q) = d := by simp [rB, zr_ur]
theorem rB_r25 {m : aj_M} {q : List Nat} {d b u : Nat → Int} : rB m q d b u (25 :: q) = b := by simp [rB, zr_ur]
theorem rB_r26 {m : aj_M} {q : List Nat} {d b u : Nat → Int} : rB m q d b u (26 :: q) = u := by simp [rB, zr_ur]
theorem rB_w24 {m : aj_M} {q : List Nat} {d b u : Nat → Int} {j : Nat} {x : Int} : aj_u (rB m q d b u) (24 :: q) j x = rB m q (st d j x) b u := by simp [rB, zu_push]
theorem rB_w25 {m : aj_M} {q : List Nat} {d b u : Nat → Int} {j : Nat} {x : Int} : aj_u (rB m q d b u) (25 :: q) j x = rB m q d (st b j x) u := by simp [rB, zu_push]
theorem rB_w26 {m : aj_M} {q : List Nat} {d b u : Nat → Int} {j : Nat} {x : Int} : aj_u (rB m q d b u) (26 :: q) j x = rB m q d b (st u j x) := by simp [rB, zu_push]
theorem rB_nR {m : aj_M} {q : List Nat} {N L : Nat} {a b : Nat → Nat} {d b' u : Nat → Int} (H : nR m q N L a b) : nR (rB m q d b' u) q N L a b := nR_of H (by rw [rB_r0]) (by rw [rB_r0]) rB_r18 rB_r19
theorem rB_self {m : aj_M} {q : List Nat} : rB m q (m (24 :: q)) (m (25 :: q)) (m (26 :: q)) = m := by
  funext p k
  simp only [rB, aj_ur]
  split
  · next h => subst h; rfl
  · split
    · next h => subst h; rfl
    · split
      · next h => subst h; rfl
      · rfl
theorem rB_rB {m : aj_M} {q : List Nat} {d b u d' b' u' : Nat → Int} : rB (rB m q d b u) q d' b' u' = rB m q d' b' u' := by
  funext p k
  simp only [rB, aj_ur]
  grind
theorem pX12_overFrom {f : Nat} {Φ : Int → aj_M → Prop} {q : List Nat} {N L : Nat} {a b : Nat → Nat} {l u : Nat} {m : aj_M} (hL : L ≤ 144) (hN : N ≤ 60) (h2 : ∀ l, l < L → m (18 :: q) l = a l ∧ m (19 :: q) l = b l) (hab : ∀ l, l < L → a l < N ∧ b l < N) (hl : l < L) (hu : u < N) (h : ∀ v, zJ N L a b l u v → Φ (v : Int) m) (h0 : (∀ v, ¬ zJ N L a b l u v) → Φ (-1) m) : wX12_overFrom f Φ q l u m := by
  have e := h2 l hl
  have e' := hab l hl
  unfold wX12_overFrom
  rw [Int.toNat_natCast, e.1, e.2]
  refine ⟨⟨by omega, by omega⟩, ⟨by omega, by omega⟩, ⟨by omega, by omega⟩, fun c => ⟨⟨by omega, by omega⟩, ⟨by omega, by omega⟩, ⟨by omega, by omega⟩, fun c2 => ?_, fun c2 => ⟨⟨by omega, by omega⟩, ?_⟩⟩, fun c => ⟨⟨by omega, by omega⟩, ?_⟩⟩
  · refine h0 (fun v hv => ?_)
    have := hv.2.2.2
    omega
  · exact h _ ⟨hl, by omega, e'.1, by omega⟩
  · exact h _ ⟨hl, by omega, e'.2, by omega⟩
def zc1000 : Nat → Nat → Int := fun l _ => if l = 1000 then -1 else l
def zF (N : Nat) (F d : Nat → Int) : Prop := ∀ v, v < N → F v = if d v < 0 then 268435456 else d v
theorem lf_in {f : Nat} {Φ : Int → aj_M → Prop} {K : List Nat → Int → Int → aj_M → Prop} {q : List Nat} {m : aj_M} {N L : Nat} {a b : Nat → Nat} (H : nR m q N L a b) {r h u : Nat} (hu : u < N)
    (hK : ∀ (t' : Nat) (d' vi' F' br' qu' : Nat → Int) (x' : Nat → Nat), zBI N (fun _ => false) (zJ N L a b) zc1000 r t' h d' vi' br' x' → zPR (fun _ => false) (zJ N L a b) (h + 1) d' x' → h < t' → (∀ i, i < t' → qu' i = x' i) → zF N F' d' → K q t' ((h : Int) + 1) (rB m q F' br' qu')) :
    ∀ (k i t : Nat) (d vi F br qu : Nat → Int) (x : Nat → Nat), i ≤ L → L - i < k → zBI N (fun _ => false) (zJ N L a b) zc1000 r t h d vi br x → zPR (fun _ => false) (zJ N L a b) h d x → h < t → x h = u → (∀ j, j < i → ∀ v, zJ N L a b j u v → 0 ≤ d v ∧ d v ≤ d u + 1) → (∀ i, i < t → qu i = x i) → zF N F d → hX12_laysFar_58 f Φ K k q t h i (rB m q F br qu) := by
  obtain ⟨g0, g1, gN1, gN, gL, gab, g2⟩ := H
  intro k
  induction k with
  | zero => intro i t d vi F br qu x h1 h2; omega
  | succ k ih =>
    intro i t d vi F br qu x h1 h3 HB HP ht hx Hin Hq HF
    have hlt := zBI_lt HB
    have hht := HB.1
    unfold hX12_laysFar_58
    simp only [rB_r0, rB_r26, Int.toNat_natCast, g0, Hq h ht, hx]
    refine ⟨⟨by omega, by omega⟩, ⟨by omega, by omega⟩, fun c => ?_, fun c => ⟨⟨by omega, by omega⟩, ?_⟩⟩
    · refine hK t d vi F br qu x HB ?_ ht Hq HF
      intro j hj l v hjn hbv
      by_cases ej : j = h
      · subst ej
        rw [hx] at hjn ⊢
        exact Hin l (by have := hjn.1; omega) v hjn
      · exact HP j (by omega) l v hjn hbv
    · have hdu : 0 ≤ d u ∧ d u < N := by
        have h1' := (HB.2.2.2.1 h ht).2.1
        rw [hx] at h1'
        exact ⟨h1', (hlt.2 u hu).2⟩
      have Hin' : ∀ d' : Nat → Int, (∀ v, zJ N L a b i u v → 0 ≤ d' v ∧ d' v ≤ d u + 1) → d' u = d u → (∀ w, 0 ≤ d w → d' w = d w) → ∀ j, j < i + 1 → ∀ w, zJ N L a b j u w → 0 ≤ d' w ∧ d' w ≤ d' u + 1 := by
        intro d' hv' hu' hd' j j2 w hjw
        rw [hu']
        by_cases ej : j = i
        · subst ej; exact hv' w hjw
        · have := Hin j (by omega) w hjw
          rw [hd' w this.1]
          exact this
      refine pX12_overFrom gL gN (m := rB m q F br qu) (fun l hl => by rw [rB_r18, rB_r19]; exact g2 l hl) gab (show i < L by omega) hu ?_ ?_
      · intro v hjn
        have hvN := hjn.2.2.1
        have hdv := hlt.2 v hvN
        have hFv := HF v hvN
        have huniq : ∀ w, zJ N L a b i u w → w = v := by
          intro w hw
          have a1 := hjn.2.2.2
          have a2 := hw.2.2.2
          omega
        simp only [rB_r24, rB_r26, Int.toNat_natCast, Hq h ht, hx]
        refine ⟨⟨by omega, by omega⟩, fun c2 => by omega, fun _ => ⟨⟨by omega, by omega⟩, ?_, fun c2 => ?_, fun c2 => ?_⟩⟩
        · rw [hFv]; split <;> exact ⟨by omega, by omega⟩
        · have hd0 : d v < 0 := by
            by_cases hd0 : d v < 0
            · exact hd0
            · rw [if_neg hd0] at hFv; omega
          have hFu : F u = d u := by rw [HF u hu, if_neg (by omega)]
          obtain ⟨p1, p2, p3⟩ := zBI_push HB ht (by rw [hx]; exact hjn) rfl hd0
          have huv : u ≠ v := by rintro rfl; omega
          refine ⟨⟨by omega, by omega⟩, ⟨by omega, by omega⟩, ⟨by omega, by omega⟩, ?_⟩
          rintro _ rfl
          rw [rB_w24]
          simp only [rB_r25, rB_r26, Int.toNat_natCast, Hq h ht, hx, hFu]
          have hgo : ∀ z : Int, z = (if x h = r then zc1000 i v else br (x h)) → hX12_laysFar_58 f Φ K k q ((t : Int) + 1) h ((i : Int) + 1) (rB m q (st F v (d u + 1)) (st br v z) (st qu t v)) := by
            rintro z rfl
            rw [hx] at p3 ⊢
            refine ih (i + 1) (t + 1) _ _ _ _ _ (sn x t v) (by omega) (by omega) p3 (zPR_push HB HP (by omega) (by omega)) (by omega) (by rw [sn_ne (by omega)]; exact hx) (Hin' _ (fun w hw => ?_) (st_ne huv) (fun w hw => st_ne (by rintro rfl; omega))) ?_ ?_
            · rw [huniq w hw, st_at]; omega
            · intro j hj
              by_cases ej : j = t
              · subst ej; rw [st_at, sn_at]
              · rw [st_ne ej, sn_ne ej]; exact Hq j (by omega)
            · intro w hw
              by_cases ew : w = v
              · subst ew; rw [st_at, st_at, if_neg (by omega)]
              · rw [st_ne ew, st_ne ew]; exact HF w hw
          have hxr : x h = r ↔ h = 0 := by
            constructor
            · intro e0
              by_cases e1 : h = 0
              · exact e1
              · exfalso
                have := zBI_inj HB (i := 0) (j := h) (by omega) ht (by rw [HB.2.2.2.2.2.2.2.1.2.2.2.1, e0])
                omega
            · rintro rfl; exact HB.2.2.2.2.2.2.2.1.2.2.2.1
          refine ⟨⟨by omega, by omega⟩, fun c5 => ⟨⟨by omega, by omega⟩, ⟨by omega, by omega⟩, ⟨by omega, by omega⟩, ?_⟩, fun c5 => ⟨⟨by omega, by omega⟩, ?_⟩⟩
          · rintro _ rfl
            rw [rB_w25]
            refine ⟨⟨by omega, by omega⟩, ?_⟩
            rintro _ rfl
            rw [rB_w26]
            exact hgo _ (by rw [if_neg (by rw [hxr]; omega), hx])
          · rintro _ rfl
            rw [rB_w25]
            refine ⟨⟨by omega, by omega⟩, ?_⟩
            rintro _ rfl
            rw [rB_w26]
            exact hgo _ (by rw [if_pos (hxr.mpr (by omega)), zc1000, if_neg (by omega)])
        · have hd0 : 0 ≤ d v := by
            by_cases hd0 : d v < 0
            · rw [if_pos hd0] at hFv; omega
            · omega
          refine ih (i + 1) t d vi F br qu x (by omega) (by omega) HB HP ht hx (Hin' d (fun w hw => ?_) rfl (fun _ _ => rfl)) Hq HF
          rw [huniq w hw]
          refine ⟨hd0, ?_⟩
          obtain ⟨jx, hjx, rfl⟩ := HB.2.2.2.2.1 v hvN hd0
          rw [← hx]
          exact HB.2.2.2.2.2.2.1 jx ht hjx
      · intro hno
        exact ⟨⟨by omega, by omega⟩, fun _ => ih (i + 1) t d vi F br qu x (by omega) (by omega) HB HP ht hx (Hin' d (fun w hw => absurd hw (hno w)) rfl (fun _ _ => rfl)) Hq HF, fun c => absurd rfl c⟩
theorem lf_out {f : Nat} {Φ : Int → aj_M → Prop} {q : List Nat} {m : aj_M} {N L : Nat} {a b : Nat → Nat} (H : nR m q N L a b) {r : Nat} (hf : 300 ≤ f)
    (hK : ∀ (t : Nat) (d vi F br qu : Nat → Int) (x : Nat → Nat), zBI N (fun _ => false) (zJ N L a b) zc1000 r t t d vi br x → zBC N (fun _ => false) (zJ N L a b) zc1000 r d vi br → (∀ i, i < t → qu i = x i) → zF N F d → Φ t (rB m q F br qu)) :
    ∀ (k h t : Nat) (d vi F br qu : Nat → Int) (x : Nat → Nat), N - h < k → zBI N (fun _ => false) (zJ N L a b) zc1000 r t h d vi br x → zPR (fun _ => false) (zJ N L a b) h d x → (∀ i, i < t → qu i = x i) → zF N F d → hX12_laysFar_50 f Φ k q t h (rB m q F br qu) := by
  intro k
  induction k with
  | zero => intro h t d vi F br qu x h1; omega
  | succ k ih =>
    intro h t d vi F br qu x h1 HB HP Hq HF
    have hlt := zBI_lt HB
    have hN : N ≤ 60 := H.2.2.2.1
    have hL : L ≤ 144 := H.2.2.2.2.1
    have hht := HB.1
    unfold hX12_laysFar_50
    refine ⟨⟨by omega, by omega⟩, ⟨by omega, by omega⟩, fun c => ?_, fun c => ?_⟩
    · have : h = t := by omega
      subst this
      exact hK h d vi F br qu x HB (zBI_end HB HP) Hq HF
    · have hxh := (HB.2.2.2.1 h (by omega)).1
      refine lf_in H hxh ?_ f 0 t d vi F br qu x (by omega) (by omega) HB HP (by omega) rfl (fun j j1 => by omega) Hq HF
      intro t' d' vi' F' br' qu' x' HB' HP' ht' Hq' HF'
      exact ih (h + 1) t' d' vi' F' br' qu' x' (by omega) (zBI_next HB' ht') HP' Hq' HF'
theorem pX12_laysFar {f : Nat} {Φ : Int → aj_M → Prop} {q : List Nat} {m : aj_M} {N L : Nat} {a b : Nat → Nat} (H : nR m q N L a b) {r : Nat} (hr : r < N) (hf : 300 ≤ f)
    (hK : ∀ (t : Nat) (d vi F br qu : Nat → Int) (x : Nat → Nat), zBI N (fun _ => false) (zJ N L a b) zc1000 r t t d vi br x → zBC N (fun _ => false) (zJ N L a b) zc1000 r d vi br → (∀ i, i < t → qu i = x i) → zF N F d → Φ t (rB m q F br qu)) : wX12_laysFar f Φ q r m := by
  have hN : N ≤ 60 := H.2.2.2.1
  unfold wX12_laysFar
  rw [← rB_self (m := m) (q := q)]
  refine zfor (H := fun k i s => hX12_laysFar_2 f Φ k q r i s) (N := N) (fun i s => ∃ F : Nat → Int, s = rB m q F (m (25 :: q)) (m (26 :: q)) ∧ ∀ v, v < i → F v = 268435456) ?_ f 0 _ (by omega) (by omega) ⟨_, rfl, fun v hv => by omega⟩
  rintro k i s hi ⟨F, rfl, hF⟩ hs
  unfold hX12_laysFar_2
  simp only [rB_r0, H.2.1, Int.toNat_natCast, Int.toNat_zero]
  refine ⟨⟨by omega, by omega⟩, ⟨by omega, by omega⟩, fun c => ⟨⟨by omega, by omega⟩, ?_⟩, fun c => ⟨⟨by omega, by omega⟩, ?_⟩⟩
  · rintro _ rfl
    rw [rB_w24]
    refine ⟨⟨by omega, by omega⟩, ?_⟩
    rintro _ rfl
    rw [rB_w25]
    rintro _ rfl
    rw [rB_w26]
    refine lf_out H hf hK f 0 1 (fun v => if v = r then 0 else -1) (fun _ => -1) _ _ _ (fun _ => r) (by omega) (zBI_first hr (fun v hv => rfl) rfl rfl ?_) (fun i hi => by omega) (fun i hi => ?_) (fun v hv => ?_)
    · rw [st_at]; rfl
    · rw [show i = 0 by omega, st_at]
    · show st F r 0 v = if (if v = r then (0 : Int) else -1) < 0 then 268435456 else (if v = r then (0 : Int) else -1)
      by_cases e : v = r
      · subst e; rw [st_at, if_pos rfl]; rfl
      · rw [st_ne e, if_neg e, hF v (by omega)]; rfl
  · rintro _ rfl
    rw [rB_w24]
    refine hs (by omega) _ ⟨_, rfl, fun v hv => ?_⟩
    by_cases e : v = i
    · subst e; rw [st_at]
    · rw [st_ne e]; exact hF v (by omega)
