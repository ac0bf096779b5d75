/-! THE SHORTEST RING: the class, pruned -/
theorem zBC_ex {N L : Nat} {a b : Nat → Nat} {r : Nat} (hr : r < N) : ∃ d vi lb : Nat → Int, zBC N zNo (zJ N L a b) zc1000 r d vi lb ∧ ∀ v, v < N → d v < N := by
  have key : ∀ (n t h : Nat) (d vi lb : Nat → Int) (x : Nat → Nat), 2 * (N - t) + (t - h) ≤ n → zBI N zNo (zJ N L a b) zc1000 r t h d vi lb x → zPR zNo (zJ N L a b) h d x → ∃ d vi lb : Nat → Int, zBC N zNo (zJ N L a b) zc1000 r d vi lb ∧ ∀ v, v < N → d v < N := by
    intro n
    induction n with
    | zero =>
      intro t h d vi lb x hn HB HP
      have h1 := HB.1
      have : h = t := by omega
      subst this
      exact ⟨d, vi, lb, zBI_end HB HP, fun v hv => ((zBI_lt HB).2 v hv).2⟩
    | succ n ih =>
      intro t h d vi lb x hn HB HP
      have h1 := HB.1
      by_cases e : h = t
      · subst e
        exact ⟨d, vi, lb, zBI_end HB HP, fun v hv => ((zBI_lt HB).2 v hv).2⟩
      · by_cases hx : ∃ l v, zJ N L a b l (x h) v ∧ d v < 0
        · obtain ⟨l, v, hj, hd⟩ := hx
          obtain ⟨p1, p2, p3⟩ := zBI_push HB (by omega) hj rfl hd
          exact ih (t + 1) h _ _ _ _ (by omega) p3 (zPR_push HB HP (by omega) hd)
        · refine ih t (h + 1) d vi lb x (by omega) (zBI_next HB (by omega)) (fun i hi l v hj hb => ?_)
          by_cases ei : i = h
          · subst ei
            have hd : 0 ≤ d v := by
              rcases (by omega : d v < 0 ∨ 0 ≤ d v) with h | h
              · exact absurd ⟨l, v, hj, h⟩ hx
              · exact h
            refine ⟨hd, ?_⟩
            obtain ⟨j, hj', rfl⟩ := HB.2.2.2.2.1 v hj.2.2.1 hd
            exact HB.2.2.2.2.2.2.1 j (by omega) hj'
          · exact HP i (by omega) l v hj hb
  exact key _ 1 0 (fun v => if v = r then 0 else -1) (fun _ => -1) (fun _ => -1) (fun _ => r) (Nat.le_refl _) (zBI_first hr (fun v hv => rfl) rfl rfl rfl) (fun i hi => by omega)
theorem zshort {N L : Nat} {a b : Nat → Nat} (hab : ∀ l, l < L → a l < N ∧ b l < N) (hL : L ≤ 144) {r k : Nat} (h : zTW N L a b r k) : ∃ k', k' ≤ 2 * N ∧ zTW N L a b r k' := by
  obtain ⟨d, vi, lb, H, hd⟩ := zBC_ex (L := L) (a := a) (b := b) (zTW_lt h)
  obtain ⟨l, hl, hc, _⟩ := zTW_Ct H (zcl_r hL) h
  obtain ⟨k', ek, hk⟩ := zCt_TW H hab hl hc
  have e1 := hd (a l) (hab l hl).1
  have e2 := hd (b l) (hab l hl).2
  exact ⟨k', by omega, hk⟩
def zSo (N L : Nat) (a b : Nat → Nat) (K best : Int) : Prop := 1 ≤ best ∧ (best ≤ 1000000 ∧ best ≤ K) ∧ (best = 1000000 ∨ ∃ w k : Nat, zTW N L a b w k ∧ (k : Int) ≤ best)
theorem zSo_gir {N L : Nat} {a b : Nat → Nat} (hab : ∀ l, l < L → a l < N ∧ b l < N) (hL : L ≤ 144) (hN : N ≤ 60) {K z : Int} (h : zSo N L a b K z) (hm : ∀ r k, zTW N L a b r k → z ≤ k) : zGir N L a b 1000000 z := by
  by_cases hex : ∃ r k, zTW N L a b r k
  · obtain ⟨r, k, hk⟩ := hex
    obtain ⟨k', h1, h2⟩ := zshort hab hL hk
    have h3 := hm r k' h2
    rcases h.2.2 with h4 | ⟨w, k0, h4, h5⟩
    · omega
    · have := hm w k0 h4
      refine Or.inr ⟨w, k0, by omega, by omega, h4, fun r' k' hk' => ?_⟩
      have := hm r' k' hk'
      omega
  · left
    refine ⟨?_, fun r k hk => hex ⟨r, k, hk⟩⟩
    rcases h.2.2 with h4 | ⟨w, k0, h4, h5⟩
    · exact h4
    · exact absurd ⟨w, k0, h4⟩ hex
theorem sr_in {f : Nat} {Φ : Int → aj_M → Prop} {K : List Nat → Int → Int → Int → aj_M → Prop} {q : List Nat} {m : aj_M} {N L : Nat} {a b s e : Nat → Nat} (H : nC m q N L a b s e) {r h u : Nat} (hu : u < N) {br : Nat → Int} {B0 : Int}
    (hK : ∀ (t' : Nat) (d' vi' lb' qu' : Nat → Int) (x' : Nat → Nat) (best' : Int), zBI N zNo (zJ N L a b) zc1000 r t' h d' vi' lb' x' → zPQ N L a b (h + 1) d' vi' x' best' → (∀ v, v < N → v ≠ r → 0 ≤ d' v → ∀ l w : Nat, vi' v = l → zJ N L a b l w v → ∃ i, i < h + 1 ∧ x' i = w) → zSo N L a b B0 best' → h < t' → (∀ i, i < t' → qu' i = x' i) → (∀ k, rI (vi' k)) → K q best' t' ((h : Int) + 1) (nB m q d' vi' br qu')) :
    ∀ (k i t : Nat) (d vi lb qu : Nat → Int) (x : Nat → Nat) (best : Int), s u ≤ i → i ≤ s (u + 1) → s (u + 1) - i < k → zBI N zNo (zJ N L a b) zc1000 r t h d vi lb x → zPQ N L a b h d vi x best → h < t → x h = u → (∀ v, v < N → v ≠ r → 0 ≤ d v → ∀ l w : Nat, vi v = l → zJ N L a b l w v → (∃ i', i' < h ∧ x i' = w) ∨ (w = u ∧ ∃ j, s u ≤ j ∧ j < i ∧ e j = l)) → (∀ j, s u ≤ j → j < i → ∀ v, zJ N L a b (e j) u v → 0 ≤ d v ∧ d v ≤ d u + 1 ∧ (vi u = e j ∨ vi v = e j ∨ best ≤ d u + d v + 1)) → zSo N L a b B0 best → (∀ i, i < t → qu i = x i) → (∀ k, rI (vi k)) → hX5_shorterFrom_82 f Φ K k q best t h u i (nB m q d vi br qu) := by
  obtain ⟨g0, g1, gN1, gN, gL, gE, g2, g8, g9⟩ := H
  obtain ⟨e1, e2, e3, e4, e5, e6⟩ := gE
  intro k
  induction k with
  | zero => intro i t d vi lb qu x best h1 h2 h3; omega
  | succ k ih =>
    intro i t d vi lb qu x best h1 h2 h3 HB HQ ht hx HC Hin Hso Hq Hvi
    have hs := e2 u hu
    have hlt := zBI_lt HB
    have hrN := HB.2.2.2.2.2.2.2.1.1
    unfold hX5_shorterFrom_82
    simp only [nB_r8, nB_r9, zt1, Int.toNat_natCast, g8 (u + 1) (by omega)]
    refine ⟨⟨by omega, by omega⟩, ⟨by omega, by omega⟩, ⟨by omega, by omega⟩, fun c => ?_, fun c => ⟨⟨by omega, by omega⟩, ?_⟩⟩
    · refine hK t d vi lb qu x best HB ?_ ?_ Hso ht Hq Hvi
      · intro j hj l v hjn
        by_cases ej : j = h
        · subst ej
          rw [hx] at hjn ⊢
          obtain ⟨k', k1, k2, k3⟩ := e4 l u v hjn
          have := Hin k' k1 (by omega) v (by rw [k3]; exact hjn)
          rwa [k3] at this
        · exact HQ j (by omega) l v hjn
      · intro v hv hvr hd l w hvi hj
        rcases HC v hv hvr hd l w hvi hj with ⟨i', hi', e'⟩ | ⟨e', _⟩
        · exact ⟨i', by omega, e'⟩
        · exact ⟨h, by omega, by rw [hx, e']⟩
    · rw [g9 u i hu h1 (by omega)]
      have hei := e3 u i hu h1 (by omega)
      refine pX5_otherEnd gL gN (m := nB m q d vi br qu) (fun l hl => by rw [nB_r2, nB_r3]; exact g2 l hl) e1 hei.1 hei.2 ?_
      intro v hjn
      have hvN := hjn.2.2.1
      have hdv := hlt.2 v hvN
      have hdu : 0 ≤ d u ∧ d u < N := by
        have h1' := (HB.2.2.2.1 h ht).2.1
        rw [hx] at h1'
        exact ⟨h1', (hlt.2 u hu).2⟩
      have huniq : ∀ w, zJ N L a b (e i) u w → w = v := fun w hw => zJ_other hw hjn
      simp only [nB_r10, nB_r12, Int.toNat_natCast]
      refine ⟨⟨by omega, by omega⟩, ⟨by omega, by omega⟩, fun c2 => ⟨⟨by omega, by omega⟩, fun c3 => ?_, fun c3 => ?_⟩, fun c2 => ⟨⟨by omega, by omega⟩, ⟨by omega, by omega⟩, Hvi u, fun c3 => ⟨⟨by omega, by omega⟩, ⟨by omega, by omega⟩, ⟨by have := Hso.1; omega, by have := Hso.2.1; omega⟩, ⟨by omega, by omega⟩, ?_⟩, fun c3 => ?_⟩⟩
      · have := (zBI_push HB ht (by rw [hx]; exact hjn) rfl c2).1
        omega
      · -- a new node
        obtain ⟨p1, p2, p3⟩ := zBI_push HB ht (by rw [hx]; exact hjn) rfl c2
        have huv : u ≠ v := by rintro rfl; omega
        have hsd : ∀ w, 0 ≤ d w → st d v (d u + 1) w = d w := fun w hw => st_ne (by rintro rfl; omega)
        have hsv : ∀ w, 0 ≤ d w → st vi v (e i : Int) w = vi w := fun w hw => st_ne (by rintro rfl; omega)
        refine ⟨⟨by omega, by omega⟩, ⟨by omega, by omega⟩, ?_⟩
        rintro _ rfl
        rw [nB_w10]
        refine ⟨⟨by omega, by omega⟩, ?_⟩
        rintro _ rfl
        rw [nB_w12]
        refine ⟨⟨by omega, by omega⟩, ?_⟩
        rintro _ rfl
        rw [nB_w14]
        rw [hx] at p3
        have hxi : ∀ i', i' < t → sn x t v i' = x i' := fun i' hi' => sn_ne (by omega)
        refine ih (i + 1) (t + 1) (st d v (d u + 1)) (st vi v (e i)) _ (st qu t v) (sn x t v) best (by omega) (by omega) (by omega) p3 ?_ (by omega) (by rw [hxi h ht]; exact hx) ?_ ?_ Hso ?_ (zrI_st Hvi ⟨by omega, by omega⟩)
        · intro j hj l w hjw
          rw [hxi j (by omega)] at hjw ⊢
          have h9 := HQ j hj l w hjw
          have h10 := (HB.2.2.2.1 j (by omega)).2.1
          rw [hsd _ h9.1, hsd _ h10, hsv _ h9.1, hsv _ h10]
          exact h9
        · intro w hw hwr hdw l w' hvi hjw
          by_cases ew : w = v
          · subst ew
            rw [st_at] at hvi
            have el : l = e i := by omega
            subst el
            exact Or.inr ⟨zJ_other (zJ_sym hjw) (zJ_sym hjn), i, h1, by omega, rfl⟩
          · rw [st_ne ew] at hdw hvi
            rcases HC w hw hwr hdw l w' hvi hjw with ⟨i', hi', e'⟩ | ⟨e', j, j1, j2, j3⟩
            · exact Or.inl ⟨i', hi', by rw [hxi i' (by omega)]; exact e'⟩
            · exact Or.inr ⟨e', j, j1, by omega, j3⟩
        · intro j j1 j2 w hjw
          rw [hsd u hdu.1, hsv u hdu.1]
          by_cases ej : j = i
          · subst ej
            rw [huniq w hjw, st_at, st_at]
            exact ⟨by omega, by omega, Or.inr (Or.inl rfl)⟩
          · have h9 := Hin j j1 (by omega) w hjw
            rw [hsd _ h9.1, hsv _ h9.1]
            exact h9
        · intro j hj
          by_cases ej : j = t
          · subst ej; rw [st_at, sn_at]
          · rw [st_ne ej, sn_ne ej]; exact Hq j (by omega)
      · -- a ring is closed
        have hdv0 : 0 ≤ d v := by omega
        have hvl : vi v ≠ e i := by
          intro hvl
          have hvr : v ≠ r := by
            rintro rfl
            rw [HB.2.2.2.2.2.2.2.1.2.2.1] at hvl
            omega
          rcases HC v hvN hvr hdv0 (e i) u hvl hjn with ⟨i', hi', e'⟩ | ⟨_, j, j1, j2, j3⟩
          · have := zBI_inj HB (i := i') (j := h) (by omega) ht (by rw [e', hx])
            omega
          · rcases e5 u j i hu j1 j2 (by omega) with h9 | ⟨_, h9, h10⟩
            · omega
            · rw [j3] at h9 h10
              have : v = u := by have := hjn.2.2.2; omega
              subst this
              exact c3 hvl.symm
        have hul : vi u ≠ e i := fun h => c3 h.symm
        have hle : d v ≤ d u + 1 := by
          obtain ⟨jx, hjx, ex⟩ := HB.2.2.2.2.1 v hvN hdv0
          rw [← hx, ← ex]
          exact HB.2.2.2.2.2.2.1 jx ht hjx
        refine ih (i + 1) t d vi lb qu x _ (by omega) (by omega) (by omega) HB ?_ ht hx ?_ ?_ ?_ Hq Hvi
        · intro j hj l w hjw
          have h9 := HQ j hj l w hjw
          refine ⟨h9.1, h9.2.1, ?_⟩
          rcases h9.2.2 with h | h | h
          · exact Or.inl h
          · exact Or.inr (Or.inl h)
          · exact Or.inr (Or.inr (by omega))
        · intro w hw hwr hdw l w' hvi hjw
          rcases HC w hw hwr hdw l w' hvi hjw with h | ⟨e', j, j1, j2, j3⟩
          · exact Or.inl h
          · exact Or.inr ⟨e', j, j1, by omega, j3⟩
        · intro j j1 j2 w hjw
          by_cases ej : j = i
          · subst ej
            rw [huniq w hjw]
            exact ⟨hdv0, hle, Or.inr (Or.inr (by omega))⟩
          · have h9 := Hin j j1 (by omega) w hjw
            refine ⟨h9.1, h9.2.1, ?_⟩
            rcases h9.2.2 with h | h | h
            · exact Or.inl h
            · exact Or.inr (Or.inl h)
            · exact Or.inr (Or.inr (by omega))
        · obtain ⟨w, k0, hk1, hk2⟩ := zTr_TW (zBI_Tr HB) hjn hdu.1 hdv0 hul hvl
          refine ⟨by have := Hso.1; omega, by have := Hso.2.1; omega, ?_⟩
          rcases (by omega : best ≤ d u + d v + 1 ∨ d u + d v + 1 < best) with hc | hc
          · rw [show min best (d u + d v + 1) = best by omega]; exact Hso.2.2
          · rw [show min best (d u + d v + 1) = d u + d v + 1 by omega]
            exact Or.inr ⟨w, k0, hk2, hk1⟩
      · -- the link that led here
        have hdv0 : 0 ≤ d v := by omega
        have hle : d v ≤ d u + 1 := by
          obtain ⟨jx, hjx, ex⟩ := HB.2.2.2.2.1 v hvN hdv0
          rw [← hx, ← ex]
          exact HB.2.2.2.2.2.2.1 jx ht hjx
        refine ih (i + 1) t d vi lb qu x best (by omega) (by omega) (by omega) HB HQ ht hx ?_ ?_ Hso Hq Hvi
        · intro w hw hwr hdw l w' hvi hjw
          rcases HC w hw hwr hdw l w' hvi hjw with h | ⟨e', j, j1, j2, j3⟩
          · exact Or.inl h
          · exact Or.inr ⟨e', j, j1, by omega, j3⟩
        · intro j j1 j2 w hjw
          by_cases ej : j = i
          · subst ej
            rw [huniq w hjw]
            exact ⟨hdv0, hle, Or.inl c3.symm⟩
          · exact Hin j j1 (by omega) w hjw
theorem sr_out {f : Nat} {Φ : Int → aj_M → Prop} {q : List Nat} {m : aj_M} {N L : Nat} {a b s e : Nat → Nat} (H : nC m q N L a b s e) {r : Nat} {br : Nat → Int} {B0 : Int} (hf : 300 ≤ f)
    (hK : ∀ (best : Int) (d vi qu : Nat → Int), zSo N L a b B0 best → (∀ k, zTW N L a b r k → best ≤ k) → (∀ k, rI (vi k)) → Φ best (nB m q d vi br qu)) :
    ∀ (k h t : Nat) (d vi lb qu : Nat → Int) (x : Nat → Nat) (best : Int), N - h < k → zBI N zNo (zJ N L a b) zc1000 r t h d vi lb x → zPQ N L a b h d vi x best → (∀ v, v < N → v ≠ r → 0 ≤ d v → ∀ l w : Nat, vi v = l → zJ N L a b l w v → ∃ i, i < h ∧ x i = w) → zSo N L a b B0 best → (∀ i, i < t → qu i = x i) → (∀ k, rI (vi k)) → hX5_shorterFrom_37 f Φ k q best t h (nB m q d vi br qu) := by
  intro k
  induction k with
  | zero => intro h t d vi lb qu x best h1; omega
  | succ k ih =>
    intro h t d vi lb qu x best h1 HB HQ HC Hso Hq Hvi
    have hlt := zBI_lt HB
    have hN : N ≤ 60 := H.2.2.2.1
    have hL : L ≤ 144 := H.2.2.2.2.1
    have hht := HB.1
    have hso1 := Hso.1
    have hso2 := Hso.2.1
    unfold hX5_shorterFrom_37
    refine ⟨⟨by omega, by omega⟩, ⟨by omega, by omega⟩, fun c => ?_, fun c => ?_⟩
    · exact hK best d vi qu Hso (fun k hk => zprune hL HB HQ (Or.inl (by omega)) hk) Hvi
    · have hxh := (HB.2.2.2.1 h (by omega)).1
      have hdx := hlt.2 (x h) hxh
      simp only [nB_r14, nB_r10, nB_r8, Int.toNat_natCast, Hq h (by omega)]
      refine ⟨⟨by omega, by omega⟩, ⟨by omega, by omega⟩, ⟨by omega, by omega⟩, ⟨by omega, by omega⟩, fun c2 => ?_, fun c2 => ⟨⟨by omega, by omega⟩, ⟨by omega, by omega⟩, ?_⟩⟩
      · exact hK best d vi qu Hso (fun k hk => zprune hL HB HQ (Or.inr ⟨by omega, c2⟩) hk) Hvi
      · rw [H.2.2.2.2.2.2.2.1 (x h) (by omega)]
        have hs := H.2.2.2.2.2.1.2.1 (x h) hxh
        refine sr_in H hxh ?_ f (s (x h)) t d vi lb qu x best (Nat.le_refl _) hs.1 (by omega) HB HQ (by omega) rfl (fun v hv hvr hd l w hvi hj => Or.inl (HC v hv hvr hd l w hvi hj)) (fun j j1 j2 => by omega) Hso Hq Hvi
        intro t' d' vi' lb' qu' x' best' HB' HQ' HC' Hso' ht' Hq' Hvi'
        exact ih (h + 1) t' d' vi' lb' qu' x' best' (by omega) (zBI_next HB' ht') HQ' HC' Hso' Hq' Hvi'
theorem pX5_shorterFrom {f : Nat} {Φ : Int → aj_M → Prop} {q : List Nat} {m : aj_M} {N L : Nat} {a b s e : Nat → Nat} (H : nC m q N L a b s e) {r : Nat} (hr : r < N) (hf : 300 ≤ f) (hvi : ∀ k, rI (m (12 :: q) k)) {B0 known : Int} (hso : zSo N L a b B0 known)
    (hK : ∀ (best : Int) (d vi qu : Nat → Int), zSo N L a b B0 best → (∀ k, zTW N L a b r k → best ≤ k) → (∀ k, rI (vi k)) → Φ best (nB m q d vi (m (13 :: q)) qu)) : wX5_shorterFrom f Φ q r known m := by
  have hN : N ≤ 60 := H.2.2.2.1
  unfold wX5_shorterFrom
  refine pJ7_fill (by omega) (by decide) ?_
  have e0 : aj_ur m (10 :: q) (fun k => if k < 60 then -1 else m (10 :: q) k) = nB m q (fun k => if k < 60 then -1 else m (10 :: q) k) (m (12 :: q)) (m (13 :: q)) (m (14 :: q)) := by
    funext p k
    simp only [nB, aj_ur]
    grind
  rw [e0]
  refine ⟨⟨by omega, by omega⟩, ?_⟩
  rintro _ rfl
  rw [nB_w10]
  refine ⟨⟨by omega, by omega⟩, ?_⟩
  rintro _ rfl
  rw [nB_w12]
  rintro _ rfl
  rw [nB_w14]
  simp only [Int.toNat_natCast, Int.toNat_zero]
  have hd : ∀ v, v < N → st (fun k => if k < 60 then -1 else m (10 :: q) k) r 0 v = if v = r then 0 else -1 := by
    intro v hv
    simp only [st]
    by_cases e : v = r
    · rw [if_pos e, if_pos e]
    · rw [if_neg e, if_neg e, if_pos (by omega)]
  refine sr_out H hf hK f 0 1 _ _ (fun _ => -1) _ (fun _ => r) known (by omega) (zBI_first hr hd st_at rfl rfl) (fun i hi => by omega) (fun v hv hvr hdv => ?_) hso (fun i hi => ?_) (zrI_st hvi (by decide))
  · rw [hd v hv, if_neg hvr] at hdv; omega
  · rw [show i = 0 by omega, st_at]
theorem pX5_shortestRing {f : Nat} {Φ : Int → aj_M → Prop} {q : List Nat} {m : aj_M} {N L : Nat} {a b s e : Nat → Nat} (H : nC m q N L a b s e) (hf : 300 ≤ f) (hvi : ∀ k, rI (m (12 :: q) k)) (hK : ∀ (z : Int) (d vi qu : Nat → Int), (∀ k, rI (vi k)) → zGir N L a b 1000000 z → Φ z (nB m q d vi (m (13 :: q)) qu)) : wX5_shortestRing f Φ q m := by
  have hN : N ≤ 60 := H.2.2.2.1
  have hL : L ≤ 144 := H.2.2.2.2.1
  unfold wX5_shortestRing
  have key : ∀ (k n : Nat) (best : Int) (d vi qu : Nat → Int), n ≤ N → N - n < k → zSo N L a b 1000000 best → (∀ r' k', r' < n → zTW N L a b r' k' → best ≤ k') → (∀ k, rI (vi k)) → hX5_shortestRing_5 f Φ k q best n (nB m q d vi (m (13 :: q)) qu) := by
    intro k
    induction k with
    | zero => intro n best d vi qu h1 h2; omega
    | succ k ih =>
      intro n best d vi qu h1 h2 h3 h4 h5
      unfold hX5_shortestRing_5
      simp only [nB_r0, H.1]
      refine ⟨⟨by omega, by omega⟩, ⟨by omega, by omega⟩, fun c => hK best d vi qu h5 ?_, fun c => ?_⟩
      · have e : n = N := by omega
        subst e
        exact zSo_gir H.2.2.2.2.2.1.1 hL hN h3 (fun r k hk => h4 r k (zTW_lt hk) hk)
      · refine pX5_shorterFrom (nB_nC H) (B0 := best) (by omega) hf (by rw [nB_r12]; exact h5) ⟨h3.1, ⟨h3.2.1.1, Int.le_refl _⟩, h3.2.2⟩ ?_
        intro best' d' vi' qu' h6 h7 h8
        rw [nB_r13, nB_nB]
        refine ih (n + 1) best' d' vi' qu' (by omega) (by omega) ⟨h6.1, ⟨h6.2.1.1, h6.2.1.1⟩, h6.2.2⟩ (fun r' k' hr' hk' => ?_) h8
        by_cases e : r' = n
        · subst e; exact h7 k' hk'
        · have := h4 r' k' (by omega) hk'
          have := h6.2.1.2
          omega
  have := key f 0 1000000 (m (10 :: q)) (m (12 :: q)) (m (14 :: q)) (by omega) (by omega) ⟨by omega, by omega, Or.inl rfl⟩ (fun r' k' h => by omega) hvi
  rw [nB_self] at this
  exact this
