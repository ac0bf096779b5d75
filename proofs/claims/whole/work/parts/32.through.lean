/-! THROUGH A NODE: class and reference -/
theorem z0bit : (0 : Nat).testBit = zNo := by funext k; simp [zNo]
theorem zcl_c {L : Nat} : ∀ l l' v v' : Nat, l < L → l' < L → ((fun _ v => v : Nat → Nat → Int) l v = (fun _ v => v : Nat → Nat → Int) l' v') → l = l' ∨ v = v' := by
  intro l l' v v' _ _ h
  simp only at h
  omega
theorem zcl_r {L : Nat} (hL : L ≤ 144) : ∀ l l' v v' : Nat, l < L → l' < L → zc1000 l v = zc1000 l' v' → l = l' ∨ v = v' := by
  intro l l' v v' h1 h2 h
  unfold zc1000 at h
  rw [if_neg (by omega), if_neg (by omega)] at h
  omega
theorem zbr_b {N L : Nat} {a b : Nat → Nat} {r : Nat} {d vi br : Nat → Int} (H : zBC N zNo (zJ N L a b) (fun _ v => v) r d vi br) {v : Nat} (hv : v < N) (hd : 0 ≤ d v) : ∃ w : Nat, br v = w ∧ w < N ∧ (v ≠ r → w ≠ r) := by
  by_cases e : v = r
  · subst e
    exact ⟨v, H.1.2.2.2, hv, fun h => absurd rfl h⟩
  · obtain ⟨c, le, c0, ck, cj, cd, cl, _⟩ := zpath H (d v).toNat v hv (by omega)
    have hk : 1 ≤ (d v).toNat := by
      rcases Nat.eq_zero_or_pos (d v).toNat with h | h
      · rw [h] at ck; exact absurd (ck.symm.trans c0) e
      · exact h
    refine ⟨c 1, (cl hk).1, (cj 0 (by omega)).2.2.1, fun _ e1 => ?_⟩
    have := cd 1 hk
    rw [e1, H.1.2.1] at this
    omega
theorem th_c {f : Nat} {Φ : Int → aj_M → Prop} {q : List Nat} {m : aj_M} {N L : Nat} {a b s e : Nat → Nat} (G : nC m q N L a b s e) {r : Nat} {d vi br : Nat → Int} (H : zBC N zNo (zJ N L a b) (fun _ v => v) r d vi br) (h10 : m (10 :: q) = d) (h12 : m (12 :: q) = vi) (h13 : m (13 :: q) = br) (hvi : ∀ k, rI (vi k)) (hd : ∀ v, v < N → -1 ≤ d v ∧ d v < N) (hK : ∀ z, zThr N L a b r 1000000 z → Φ z m) : ∀ (k l : Nat) (best : Int), l ≤ L → L - l < k → zLe a b r d vi br 1000000 l best → rI best → hX5_shortestThrough_11 f Φ k q r best l m := by
  obtain ⟨g0, g1, gN1, gN, gL, gE, g2, g8, g9⟩ := G
  have hrN := H.1.1
  have hr0 := H.1.2.1
  have hab := gE.1
  intro k
  induction k with
  | zero => intro l best h1 h2; omega
  | succ k ih =>
    intro l best h1 h2 hB hrI
    unfold hX5_shortestThrough_11
    simp only [g1, Int.toNat_natCast]
    refine ⟨⟨by omega, by omega⟩, ⟨by omega, by omega⟩, fun c => ?_, fun c => ?_⟩
    · have : l = L := by omega
      subst this
      exact hK best (zLe_thr H zcl_c hab (fun v hv => (hd v hv).2) (by omega) hB)
    · have hl : l < L := by omega
      have hN := hab l hl
      have h2' := g2 l hl
      have hjl : zJ N L a b l (a l) (b l) := ⟨hl, hN.1, hN.2, Or.inl ⟨rfl, rfl⟩⟩
      have da := hd _ hN.1
      have db := hd _ hN.2
      simp only [h2'.1, h2'.2, Int.toNat_natCast]
      have skip : ¬ zCt a b r d vi br l → hX5_shortestThrough_11 f Φ k q r best ((l : Int) + 1) m := fun hc => ih (l + 1) best (by omega) (by omega) (zLe_no hB hc) hrI
      have h76 : ¬ (a l = r ∧ b l = r) → ∀ vs : Int, (vs = 1 ∧ (vi (a l) = l ∨ vi (b l) = l)) ∨ (vs = 0 ∧ vi (a l) ≠ l ∧ vi (b l) ≠ l) → hX5_shortestThrough_76 f Φ (fun q0 v1 v2 v3 m => hX5_shortestThrough_11 f Φ k q0 v1 v2 v3 m) q r best l (a l) (b l) vs m := by
        intro hnr vs hvs
        unfold hX5_shortestThrough_76
        simp only [h10, h13, Int.toNat_natCast]
        refine ⟨⟨by omega, by omega⟩, ⟨by omega, by omega⟩, fun k1 => skip (fun hc => by have := hc.1; omega), fun k1 => ⟨⟨by omega, by omega⟩, ⟨by omega, by omega⟩, fun k2 => skip (fun hc => by have := hc.2.1; omega), fun k2 => ⟨⟨by omega, by omega⟩, fun k3 => skip (fun hc => ?_), fun k3 => ?_⟩⟩⟩
        · -- a link of the tree
          have hv1 : vi (a l) = l ∨ vi (b l) = l := by omega
          rcases hv1 with hv1 | hv1
          · have har : a l ≠ r := by intro e; rw [e, H.1.2.2.1] at hv1; omega
            obtain ⟨_, l', u', b2, b3, b4, b5, b6⟩ := H.2.2.1 (a l) hN.1 har (by omega)
            have el : l' = l := by omega
            subst el
            have eu : u' = b l' := zJ_other (zJ_sym b2) hjl
            rw [eu] at b6
            rcases hc.2.2 with h | h | h | h
            · exact har h.1
            · exact har h.1
            · exact h.2.2 hv1
            · rw [if_neg h.2.1] at b6; exact h.2.2 b6
          · have har : b l ≠ r := by intro e; rw [e, H.1.2.2.1] at hv1; omega
            obtain ⟨_, l', u', b2, b3, b4, b5, b6⟩ := H.2.2.1 (b l) hN.2 har (by omega)
            have el : l' = l := by omega
            subst el
            have eu : u' = a l' := zJ_other (zJ_sym b2) (zJ_sym hjl)
            rw [eu] at b6
            rcases hc.2.2 with h | h | h | h
            · exact har h.2
            · exact h.2.2 hv1
            · exact har h.2.1
            · rw [if_neg h.1] at b6; exact h.2.2 b6.symm
        · have hnt : vi (a l) ≠ l ∧ vi (b l) ≠ l := by omega
          obtain ⟨wa, ea, wa1, wa2⟩ := zbr_b H hN.1 (show 0 ≤ d (a l) by omega)
          obtain ⟨wb, eb, wb1, wb2⟩ := zbr_b H hN.2 (show 0 ≤ d (b l) by omega)
          refine ⟨⟨by omega, by omega⟩, ⟨by omega, by omega⟩, ⟨by omega, by omega⟩, ⟨by omega, by omega⟩, fun k4 => skip (fun hc => ?_), fun k4 => ⟨⟨by omega, by omega⟩, ⟨by omega, by omega⟩, hrI, ⟨by omega, by omega⟩, ?_⟩⟩
          · rcases hc.2.2 with h | h | h | h
            · exact hnr h
            · have e1 : br r = ((r : Nat) : Int) := H.1.2.2.2
              have := wb2 h.2.1
              rw [h.1] at k4 ea
              omega
            · have e1 : br r = ((r : Nat) : Int) := H.1.2.2.2
              have := wa2 h.1
              rw [h.2.1] at k4 eb
              omega
            · exact h.2.2 k4
          · refine ih (l + 1) _ (by omega) (by omega) (zLe_yes hB ⟨by omega, by omega, ?_⟩) ⟨by have := hrI.1; omega, by have := hrI.2; omega⟩
            by_cases e1 : a l = r
            · by_cases e2 : b l = r
              · exact Or.inl ⟨e1, e2⟩
              · exact Or.inr (Or.inl ⟨e1, e2, hnt.2⟩)
            · by_cases e2 : b l = r
              · exact Or.inr (Or.inr (Or.inl ⟨e1, e2, hnt.1⟩))
              · exact Or.inr (Or.inr (Or.inr ⟨e1, e2, k4⟩))
      have h49 : ¬ (a l = r ∧ b l = r) → hX5_shortestThrough_49 f Φ (fun q0 v1 v2 v3 m => hX5_shortestThrough_11 f Φ k q0 v1 v2 v3 m) q r best l (a l) (b l) m := by
        intro hnr
        unfold hX5_shortestThrough_49
        simp only [h12, Int.toNat_natCast]
        refine ⟨⟨by omega, by omega⟩, hvi _, ⟨by omega, by omega⟩, fun k1 => h76 hnr 1 (Or.inl ⟨rfl, Or.inl k1⟩), fun k1 => ⟨⟨by omega, by omega⟩, hvi _, ⟨by omega, by omega⟩, fun k2 => h76 hnr 0 (Or.inr ⟨rfl, k1, k2⟩), fun k2 => h76 hnr 1 (Or.inl ⟨rfl, Or.inr k2⟩)⟩⟩
      refine ⟨⟨by omega, by omega⟩, ⟨by omega, by omega⟩, ⟨by omega, by omega⟩, ⟨by omega, by omega⟩, fun k1 => h49 (by omega), fun k1 => ⟨⟨by omega, by omega⟩, ⟨by omega, by omega⟩, fun k2 => h49 (by omega), fun k2 => hK 1 (Or.inr ⟨1, rfl, by omega, ⟨by omega, fun _ => r, fun _ => l, rfl, rfl, fun i hi => ?_, fun i h1 h2 => by omega, fun h => by omega⟩, fun k' hk' => hk'.1⟩)⟩⟩
      exact ⟨hl, hrN, hrN, Or.inl ⟨show a l = r by omega, show b l = r by omega⟩⟩
theorem pX5_shortestThrough {f : Nat} {Φ : Int → aj_M → Prop} {q : List Nat} {m : aj_M} {N L : Nat} {a b s e : Nat → Nat} (H : nC m q N L a b s e) (hB : m q 16 = 0) {r : Nat} (hr : r < N) (hf : 300 ≤ f) (hvi : ∀ k, rI (m (12 :: q) k)) (hK : ∀ (z : Int) (d vi br qu : Nat → Int), (∀ k, rI (vi k)) → zThr N L a b r 1000000 z → Φ z (nB m q d vi br qu)) : wX5_shortestThrough f Φ q r m := by
  unfold wX5_shortestThrough
  refine pX5_spread H (B := 0) hB (by decide) hr hf hvi ?_
  intro t d vi br qu x HB HC Hq Hvi
  rw [z0bit] at HB HC
  have hL : L ≤ 144 := H.2.2.2.2.1
  exact th_c (nB_nC H) HC nB_r10 nB_r12 nB_r13 Hvi (zBI_lt HB).2 (fun z hz => hK z d vi br qu Hvi hz) f 0 _ (by omega) (by omega) zLe_0 (by decide)
theorem th_r {f : Nat} {Φ : Int → aj_M → Prop} {q : List Nat} {m : aj_M} {N L : Nat} {a b : Nat → Nat} (G : nR m q N L a b) {r : Nat} {d vi lb F : Nat → Int} (H : zBC N zNo (zJ N L a b) zc1000 r d vi lb) (h24 : m (24 :: q) = F) (h25 : m (25 :: q) = lb) (hF : zF N F d) (hd : ∀ v, v < N → -1 ≤ d v ∧ d v < N) (hK : ∀ z, zThr N L a b r 268435456 z → Φ z m) : ∀ (k l : Nat) (best : Int), l ≤ L → L - l < k → zLe a b r d vi lb 268435456 l best → 0 ≤ best → hX12_throughOf_12 f Φ k q r best l m := by
  obtain ⟨g0, g1, gN1, gN, gL, hab, g2⟩ := G
  have hrN := H.1.1
  have hr0 := H.1.2.1
  intro k
  induction k with
  | zero => intro l best h1 h2; omega
  | succ k ih =>
    intro l best h1 h2 hB hb0
    have hbi := hB.1
    unfold hX12_throughOf_12
    simp only [g0, Int.toNat_natCast]
    refine ⟨⟨by omega, by omega⟩, ⟨by omega, by omega⟩, fun c => ?_, fun c => ?_⟩
    · have : l = L := by omega
      subst this
      exact hK best (zLe_thr H (zcl_r gL) hab (fun v hv => (hd v hv).2) (by omega) hB)
    · have hl : l < L := by omega
      have hN := hab l hl
      have h2' := g2 l hl
      have hjl : zJ N L a b l (a l) (b l) := ⟨hl, hN.1, hN.2, Or.inl ⟨rfl, rfl⟩⟩
      have da := hd _ hN.1
      have db := hd _ hN.2
      have fa := hF _ hN.1
      have fb := hF _ hN.2
      simp only [h2'.1, h2'.2, h24, Int.toNat_natCast]
      have skip : ¬ zCt a b r d vi lb l → hX12_throughOf_12 f Φ k q r best ((l : Int) + 1) m := fun hc => ih (l + 1) best (by omega) (by omega) (zLe_no hB hc) hb0
      have go : zCt a b r d vi lb l → ∀ z, z = min best (d (a l) + d (b l) + 1) → hX12_throughOf_12 f Φ k q r z ((l : Int) + 1) m := by
        rintro hc z rfl
        have h3 := hc.1
        have h4 := hc.2.1
        exact ih (l + 1) _ (by omega) (by omega) (zLe_yes hB hc) (by omega)
      have rch : ¬ F (a l) = 268435456 → 0 ≤ d (a l) ∧ 0 ≤ d (b l) := by
        intro hfa
        have h3 : 0 ≤ d (a l) := by
          rcases (by omega : d (a l) < 0 ∨ 0 ≤ d (a l)) with h | h
          · rw [if_pos h] at fa; exact absurd fa hfa
          · exact h
        exact ⟨h3, (H.2.2.2 l _ _ hjl h3 rfl).1⟩
      -- a node beside r
      have lab : ∀ v, v < N → v ≠ r → zJ N L a b l r v → 0 ≤ d v ∧ (lb v = l ↔ vi v = l) ∧ rI (lb v) ∧ d v = 1 := by
        intro v hv hvr hj
        have hd1 := H.2.2.2 l r v hj (by omega) rfl
        obtain ⟨_, l', u', b2, b3, b4, b5, b6⟩ := H.2.2.1 v hv hvr hd1.1
        have hu : u' = r := by
          by_cases e : u' = r
          · exact e
          · obtain ⟨_, _, _, _, _, _, _, _⟩ := H.2.2.1 u' b2.2.1 e b4
            omega
        have hl' := b2.1
        rw [if_pos hu] at b6
        unfold zc1000 at b6
        rw [if_neg (by omega)] at b6
        rw [b6, b3]
        refine ⟨hd1.1, Iff.rfl, ⟨by omega, by omega⟩, ?_⟩
        rw [hu] at b5
        omega
      have h104 : ∀ v, v < N → v ≠ r → zJ N L a b l r v → (zCt a b r d vi lb l ↔ vi v ≠ l) → (d (a l) + d (b l) + 1 = 2) → hX12_throughOf_104 f Φ (fun q0 v1 v2 v3 m => hX12_throughOf_12 f Φ k q0 v1 v2 v3 m) q r best l (25 :: q) v m := by
        intro v hv hvr hj hiff h2v
        obtain ⟨l1, l2, l3, l4⟩ := lab v hv hvr hj
        unfold hX12_throughOf_104
        simp only [h25, Int.toNat_natCast]
        refine ⟨⟨by omega, by omega⟩, l3, ⟨by omega, by omega⟩, fun k1 => ⟨⟨by omega, by omega⟩, fun k2 => ?_, fun k2 => ?_⟩, fun k1 => ⟨⟨by omega, by omega⟩, fun k2 => ?_, fun k2 => by omega⟩⟩
        · exact go (hiff.mpr (fun e => k1 (l2.mpr e))) _ (by omega)
        · exact go (hiff.mpr (fun e => k1 (l2.mpr e))) _ (by omega)
        · exact skip (fun hc => (hiff.mp hc) (l2.mp k1))
      have h75 : ¬ F (a l) = 268435456 → ¬ (a l = r ∧ b l = r) → hX12_throughOf_75 f Φ (fun q0 v1 v2 v3 m => hX12_throughOf_12 f Φ k q0 v1 v2 v3 m) q r best l (a l) (b l) 268435456 m := by
        intro hfa hnr
        obtain ⟨ra, rb⟩ := rch hfa
        unfold hX12_throughOf_75
        simp only [h24, h25, Int.toNat_natCast]
        refine ⟨⟨by omega, by omega⟩, ⟨by omega, by omega⟩, fun k1 => ⟨⟨by omega, by omega⟩, ⟨by omega, by omega⟩, fun k2 => absurd k1 k2, fun _ => ?_⟩, fun k1 => ⟨⟨by omega, by omega⟩, ⟨by omega, by omega⟩, fun k2 => ?_, fun k2 => ⟨⟨by omega, by omega⟩, ⟨by omega, by omega⟩, fun _ => ?_, fun k3 => absurd k3 k1⟩⟩⟩
        · have ea : a l = r := by omega
          have eb : b l ≠ r := fun h => hnr ⟨ea, h⟩
          have hj : zJ N L a b l r (b l) := by rw [← ea]; exact hjl
          refine h104 (b l) hN.2 eb hj ⟨fun hc => ?_, fun h => ⟨ra, rb, Or.inr (Or.inl ⟨ea, eb, h⟩)⟩⟩ ?_
          · rcases hc.2.2 with h | h | h | h
            · exact absurd h hnr
            · exact h.2.2
            · exact absurd h.2.1 eb
            · exact absurd ea h.1
          · rw [(lab (b l) hN.2 eb hj).2.2.2, ea, hr0]; rfl
        · have ea : a l ≠ r := by omega
          have eb : b l ≠ r := by omega
          have lbI : ∀ v, v < N → v ≠ r → 0 ≤ d v → rI (lb v) := by
            intro v hv hvr hdv
            obtain ⟨c, le, c0, ck, cj, cd, cl, _⟩ := zpath H (d v).toNat v hv (by omega)
            have hk : 1 ≤ (d v).toNat := by
              rcases Nat.eq_zero_or_pos (d v).toNat with h | h
              · rw [h] at ck; exact absurd (ck.symm.trans c0) hvr
              · exact h
            have hl0 := (cj 0 (by omega)).1
            rw [(cl hk).1]
            unfold zc1000
            rw [if_neg (by omega)]
            exact ⟨by omega, by omega⟩
          have f1 : F (a l) = d (a l) := by rw [fa, if_neg (by omega)]
          have f2 : F (b l) = d (b l) := by rw [fb, if_neg (by omega)]
          rw [f1, f2]
          refine ⟨⟨by omega, by omega⟩, ⟨by omega, by omega⟩, lbI _ hN.1 ea ra, lbI _ hN.2 eb rb, fun k3 => ⟨by decide, ⟨by omega, by omega⟩, fun k4 => skip (fun hc => ?_), fun k4 => by omega⟩, fun k3 => ⟨⟨by omega, by omega⟩, ⟨by omega, by omega⟩, ⟨by omega, by omega⟩, ⟨by omega, by omega⟩, fun k4 => go ?_ _ (by omega), fun k4 => go ?_ _ (by omega)⟩⟩
          · rcases hc.2.2 with h | h | h | h
            · exact ea h.1
            · exact ea h.1
            · exact eb h.2.1
            · exact h.2.2 k3
          · exact ⟨ra, rb, Or.inr (Or.inr (Or.inr ⟨ea, eb, k3⟩))⟩
          · exact ⟨ra, rb, Or.inr (Or.inr (Or.inr ⟨ea, eb, k3⟩))⟩
        · have ea : a l ≠ r := by omega
          have eb : b l = r := by omega
          have hj : zJ N L a b l r (a l) := by rw [← eb]; exact zJ_sym hjl
          refine h104 (a l) hN.1 ea hj ⟨fun hc => ?_, fun h => ⟨ra, rb, Or.inr (Or.inr (Or.inl ⟨ea, eb, h⟩))⟩⟩ ?_
          · rcases hc.2.2 with h | h | h | h
            · exact absurd h hnr
            · exact absurd h.1 ea
            · exact h.2.2
            · exact absurd eb h.2.1
          · rw [(lab (a l) hN.1 ea hj).2.2.2, eb, hr0]; rfl
      refine ⟨⟨by omega, by omega⟩, ⟨by omega, by omega⟩, ⟨by omega, by omega⟩, ?_, fun k1 => ⟨⟨by omega, by omega⟩, ⟨by omega, by omega⟩, fun k2 => h75 k1 (by omega), fun k2 => ⟨⟨by omega, by omega⟩, ⟨by omega, by omega⟩, fun k3 => h75 k1 (by omega), fun k3 => ?_⟩⟩, fun k1 => skip (fun hc => ?_)⟩
      · rw [fa]; split <;> exact ⟨by omega, by omega⟩
      · have ea : a l = r := by omega
        have eb : b l = r := by omega
        have hc : zCt a b r d vi lb l := ⟨by rw [ea, hr0]; omega, by rw [eb, hr0]; omega, Or.inl ⟨ea, eb⟩⟩
        have e1 : d (a l) + d (b l) + 1 = 1 := by rw [ea, eb, hr0]; rfl
        exact ⟨⟨by omega, by omega⟩, fun k4 => go hc _ (by omega), fun k4 => go hc _ (by omega)⟩
      · have := hc.1
        rw [k1, if_neg (by omega)] at fa
        omega
theorem pX12_throughOf {f : Nat} {Φ : Int → aj_M → Prop} {q : List Nat} {m : aj_M} {N L : Nat} {a b : Nat → Nat} (H : nR m q N L a b) {r : Nat} (hr : r < N) (hf : 300 ≤ f) (hK : ∀ (z : Int) (d br qu : Nat → Int), zThr N L a b r 268435456 z → Φ z (rB m q d br qu)) : wX12_throughOf f Φ q r m := by
  unfold wX12_throughOf
  refine pX12_laysFar H hr hf ?_
  intro t d vi F br qu x HB HC Hq HF
  have hL : L ≤ 144 := H.2.2.2.2.1
  exact th_r (rB_nR H) HC rB_r24 rB_r25 HF (zBI_lt HB).2 (fun z hz => hK z F br qu hz) f 0 _ (by omega) (by omega) zLe_0 (by decide)
/-! the shortest of all -/
def zGir (N L : Nat) (a b : Nat → Nat) (inf z : Int) : Prop := (z = inf ∧ ∀ r k, ¬ zTW N L a b r k) ∨ (∃ r k : Nat, z = k ∧ k ≤ 2 * N ∧ zTW N L a b r k ∧ ∀ r' k', zTW N L a b r' k' → k ≤ k')
theorem zTW_lt {N L : Nat} {a b : Nat → Nat} {r k : Nat} (h : zTW N L a b r k) : r < N := by
  obtain ⟨h1, c, le, c0, _, cj, _⟩ := h
  rw [← c0]; exact (cj 0 (by omega)).2.1
def zGu (N L : Nat) (a b : Nat → Nat) (inf : Int) (n : Nat) (z : Int) : Prop := (z = inf ∧ ∀ r k, r < n → ¬ zTW N L a b r k) ∨ (∃ r k : Nat, z = k ∧ k ≤ 2 * N ∧ zTW N L a b r k ∧ ∀ r' k', r' < n → zTW N L a b r' k' → k ≤ k')
theorem zGu_step {N L : Nat} {a b : Nat → Nat} {inf : Int} {n : Nat} {z z' : Int} (hinf : 2 * (N : Int) < inf) (h : zGu N L a b inf n z) (h' : zThr N L a b n inf z') : zGu N L a b inf (n + 1) (min z z') := by
  rcases h with ⟨rfl, h⟩ | ⟨r, k, rfl, h1, h2, h3⟩
  · rcases h' with ⟨rfl, h'⟩ | ⟨k', rfl, h4, h5, h6⟩
    · left
      refine ⟨by omega, fun r k hr hk => ?_⟩
      by_cases e : r = n
      · subst e; exact h' k hk
      · exact h r k (by omega) hk
    · right
      refine ⟨n, k', by omega, h4, h5, fun r' k'' hr hk => ?_⟩
      by_cases e : r' = n
      · subst e; exact h6 k'' hk
      · exact absurd hk (h r' k'' (by omega))
  · right
    rcases h' with ⟨rfl, h'⟩ | ⟨k', rfl, h4, h5, h6⟩
    · refine ⟨r, k, by omega, h1, h2, fun r' k'' hr hk => ?_⟩
      by_cases e : r' = n
      · subst e; exact absurd hk (h' k'')
      · exact h3 r' k'' (by omega) hk
    · by_cases c : k ≤ k'
      · refine ⟨r, k, by omega, h1, h2, fun r' k'' hr hk => ?_⟩
        by_cases e : r' = n
        · subst e; have := h6 k'' hk; omega
        · exact h3 r' k'' (by omega) hk
      · refine ⟨n, k', by omega, h4, h5, fun r' k'' hr hk => ?_⟩
        by_cases e : r' = n
        · subst e; exact h6 k'' hk
        · have := h3 r' k'' (by omega) hk; omega
theorem zGu_end {N L : Nat} {a b : Nat → Nat} {inf z : Int} (h : zGu N L a b inf N z) : zGir N L a b inf z := by
  rcases h with ⟨h1, h⟩ | ⟨r, k, h0, h1, h2, h3⟩
  · exact Or.inl ⟨h1, fun r k hk => h r k (zTW_lt hk) hk⟩
  · exact Or.inr ⟨r, k, h0, h1, h2, fun r' k' hk => h3 r' k' (zTW_lt hk) hk⟩
theorem pX12_girthNow {f : Nat} {Φ : Int → aj_M → Prop} {q : List Nat} {m : aj_M} {N L : Nat} {a b : Nat → Nat} (H : nR m q N L a b) (hf : 300 ≤ f) (hK : ∀ (z : Int) (d br qu : Nat → Int), zGir N L a b 268435456 z → Φ z (rB m q d br qu)) : wX12_girthNow f Φ q m := by
  have hN : N ≤ 60 := H.2.2.2.1
  unfold wX12_girthNow
  have bd : ∀ n z, zGu N L a b 268435456 n z → 0 ≤ z ∧ z ≤ 268435456 := by
    rintro n z (⟨rfl, _⟩ | ⟨r, k, rfl, h, _⟩) <;> omega
  have key : ∀ (k n : Nat) (best : Int) (d br qu : Nat → Int), n ≤ N → N - n < k → zGu N L a b 268435456 n best → hX12_girthNow_6 f Φ k q best n (rB m q d br qu) := by
    intro k
    induction k with
    | zero => intro n best d br qu h1 h2; omega
    | succ k ih =>
      intro n best d br qu h1 h2 h3
      have hb := bd n best h3
      unfold hX12_girthNow_6
      simp only [rB_r0, H.2.1]
      refine ⟨⟨by omega, by omega⟩, ⟨by omega, by omega⟩, fun c => hK best d br qu ?_, fun c => ?_⟩
      · have e : n = N := by omega
        subst e
        exact zGu_end h3
      · refine pX12_throughOf (rB_nR H) (by omega) hf ?_
        intro z d' br' qu' hz
        rw [rB_rB]
        have hs := zGu_step (by omega) h3 hz
        have hz2 : 0 ≤ z ∧ z ≤ 268435456 := by
          rcases hz with ⟨rfl, _⟩ | ⟨k0, rfl, _, _⟩ <;> omega
        refine ⟨⟨by omega, by omega⟩, ⟨by omega, by omega⟩, fun c2 => ?_, fun c2 => ?_⟩
        · rw [show min best z = best by omega] at hs
          exact ih (n + 1) best d' br' qu' (by omega) (by omega) hs
        · rw [show min best z = z by omega] at hs
          exact ih (n + 1) z d' br' qu' (by omega) (by omega) hs
  rw [← rB_self (m := m) (q := q)]
  exact key f 0 _ _ _ _ (by omega) (by omega) (Or.inl ⟨rfl, fun r k h => by omega⟩)
