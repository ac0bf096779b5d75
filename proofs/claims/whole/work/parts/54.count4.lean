/-! RINGS COUNTED: the reference -/
theorem rf_go {f : Nat} {q : List Nat} {m : aj_M} {N L : Nat} {a b : Nat → Nat} (H : nR m q N L a b) (hJ : ∀ u v, u < 60 → v < 60 → m (21 :: q) (60 * u + v) = zjn L a b u v) {s : Nat} (hs : s < N) {k : Nat} (hk : 2 ≤ k ∧ k ≤ 5) (hf : 300 ≤ f) : ∀ (d : Nat) (p : List Nat) (Φ : Int → aj_M → Prop) (R : Nat → Int) (ways : Int), k + 1 - (p.length + 1) < d → p.length ≤ k → zDD s p = true → (∀ x, x ∈ p → x < N) → zLn R s p → (∀ R' : Nat → Int, zLn R' s p → Φ (ways * zHr (zJm L a b) N s (k - p.length) p) (aj_ur m (30 :: q) R')) → rG3 f d 0 Φ q ((p.length : Int) + 1) ((k : Int) + 1) ways (aj_ur m (30 :: q) R) := by
  have hN : N ≤ 60 := H.2.2.2.1
  have hL : L ≤ 144 := H.2.2.2.2.1
  have r30 : ∀ R : Nat → Int, aj_ur m (30 :: q) R (30 :: q) = R := fun R => by rw [zr_ur, if_pos rfl]
  have r21 : ∀ R : Nat → Int, aj_ur m (30 :: q) R (21 :: q) = m (21 :: q) := fun R => by rw [zr_ur, if_neg (by simp)]
  have r0 : ∀ R : Nat → Int, aj_ur m (30 :: q) R q = m q := fun R => by rw [zr_ur, if_neg (by simp)]
  intro d
  induction d with
  | zero => intro p Φ R ways a1; omega
  | succ d ih =>
    intro p Φ R ways a1 a2 hD hpN hLn hK
    have hDp : p.Nodup ∧ ∀ x, x ∈ p → s < x := of_decide_eq_true hD
    have hat : p.getLastD s < N := by
      rw [List.getLastD_eq_getLast?]
      cases h : p.getLast? with
      | none => exact hs
      | some z => exact hpN z (List.mem_of_getLast? h)
    -- the last of the line
    have hlast : R p.length = (p.getLastD s : Nat) := by
      by_cases hne : p = []
      · subst hne; exact hLn.1
      · have h1 : p[p.length - 1]? = some (p.getLastD s) := by
          rw [List.getLastD_eq_getLast?, List.getLast?_eq_getElem?]
          have : p.length - 1 < p.length := by
            have := List.length_pos_iff.mpr hne; omega
          rw [List.getElem?_eq_getElem this]; rfl
        have h2 := hLn.2 _ _ h1
        have : p.length - 1 + 1 = p.length := by
          have := List.length_pos_iff.mpr hne; omega
        rwa [this] at h2
    generalize hatd : p.getLastD s = at' at *
    show (if (0 : Nat) = 0 then wbX12_ringsFrom f Φ (rG3 f d) q ((p.length : Int) + 1) ((k : Int) + 1) ways (aj_ur m (30 :: q) R) else False)
    rw [if_pos rfl]
    unfold wbX12_ringsFrom
    have et : ((p.length : Int) + 1 - 1).toNat = p.length := by omega
    simp only [r30, r21, et, hlast, Int.toNat_zero, hLn.1, Int.reduceToNat]
    refine ⟨⟨by omega, by omega⟩, ⟨by omega, by omega⟩, ⟨by omega, by omega⟩, fun c => ?_, fun c => ?_⟩
    · have hkp : p.length < k := by omega
      have ek : k - p.length = (k - p.length - 1) + 1 := by omega
      obtain ⟨g, hg⟩ : ∃ g : Nat → Int, g = fun v => if zDD s (p ++ [v]) then zJm L a b at' v * zHr (zJm L a b) N s (k - p.length - 1) (p ++ [v]) else 0 := ⟨_, rfl⟩
      have fin : zs N g = zHr (zJm L a b) N s (k - p.length) p := by
        rw [ek, zHr_step, hatd, hg]
      have hg0 : ∀ v, v ≤ s → g v = 0 := by
        intro v hv
        rw [hg]
        show (if zDD s (p ++ [v]) then _ else 0) = 0
        rw [if_neg (fun h => by have := ((zDD_iff hD).mp h).1; omega)]
      have key : ∀ (kk n : Nat) (w5 : Int) (R : Nat → Int), s + 1 ≤ n → n ≤ N → N - n < kk → zLn R s p → w5 = ways * zs n g → hX12_ringsFrom_63 f Φ (rG3 f d) kk q ((p.length : Int) + 1) ((k : Int) + 1) ways at' w5 n (aj_ur m (30 :: q) R) := by
        intro kk
        induction kk with
        | zero => intro n w5 R b1 b2 b3; omega
        | succ kk ihk =>
          intro n w5 R b1 b2 b3 hLn hw5
          unfold hX12_ringsFrom_63
          rw [r0, r21, H.2.1]
          refine ⟨⟨by omega, by omega⟩, ⟨by omega, by omega⟩, fun c2 => ?_, fun c2 => ?_⟩
          · rw [hw5, show n = N by omega, fin]
            exact hK R hLn
          · have e60 : (60 * (at' : Int) + (n : Int)).toNat = 60 * at' + n := by omega
            have hjl := zjn_le (L := L) (a := a) (b := b) (u := at') (v := n)
            rw [e60, hJ _ _ (by omega) (by omega)]
            have skip : g n = 0 → ∀ R : Nat → Int, zLn R s p → hX12_ringsFrom_63 f Φ (rG3 f d) kk q ((p.length : Int) + 1) ((k : Int) + 1) ways at' w5 ((n : Int) + 1) (aj_ur m (30 :: q) R) := by
              intro hgn R hLn
              refine ihk (n + 1) w5 R (by omega) (by omega) (by omega) hLn ?_
              rw [hw5]
              show _ = ways * (zs n g + g n)
              rw [hgn, Int.add_zero]
            refine ⟨⟨by omega, by omega⟩, ⟨by omega, by omega⟩, fun c3 => skip ?_ R hLn, fun c3 => ?_⟩
            · rw [hg]
              show (if zDD s (p ++ [n]) then zJm L a b at' n * _ else 0) = 0
              have : zJm L a b at' n = 0 := by unfold zJm; split <;> omega
              rw [this]; split <;> simp
            · -- is it on the line?
              have hx : ∀ i, i < p.length + 1 → aj_ur m (30 :: q) R (30 :: q) i = ((if i = 0 then s else p.getD (i - 1) 0 : Nat) : Int) := by
                intro i hi
                rw [r30]
                by_cases e : i = 0
                · subst e; rw [if_pos rfl]; exact hLn.1
                · rw [if_neg e]
                  have h1 : p[i - 1]? = some (p.getD (i - 1) 0) := by
                    rw [List.getD_eq_getElem?_getD, List.getElem?_eq_getElem (show i - 1 < p.length by omega)]; rfl
                  have h2 := hLn.2 _ _ h1
                  rwa [show i - 1 + 1 = i by omega] at h2
              have hxb : ∀ i, i < p.length + 1 → (if i = 0 then s else p.getD (i - 1) 0) < 60 := by
                intro i hi
                by_cases e : i = 0
                · rw [if_pos e]; omega
                · rw [if_neg e]
                  have h1 : p[i - 1]? = some (p.getD (i - 1) 0) := by
                    rw [List.getD_eq_getElem?_getD, List.getElem?_eq_getElem (show i - 1 < p.length by omega)]; rfl
                  have := hpN _ (List.mem_of_getElem? h1)
                  omega
              have hgone : (∃ i, i < p.length + 1 ∧ (if i = 0 then s else p.getD (i - 1) 0) = n) ↔ n ∈ p := by
                constructor
                · rintro ⟨i, hi, e⟩
                  by_cases e0 : i = 0
                  · rw [if_pos e0] at e; omega
                  · rw [if_neg e0] at e
                    have h1 : p[i - 1]? = some (p.getD (i - 1) 0) := by
                      rw [List.getD_eq_getElem?_getD, List.getElem?_eq_getElem (show i - 1 < p.length by omega)]; rfl
                    rw [e] at h1
                    exact List.mem_of_getElem? h1
                · intro h
                  obtain ⟨i, hi⟩ := List.mem_iff_getElem?.mp h
                  have hil := (List.getElem?_eq_some_iff.mp hi).1
                  refine ⟨i + 1, by omega, ?_⟩
                  rw [if_neg (by omega), show i + 1 - 1 = i by omega, List.getD_eq_getElem?_getD, hi]; rfl
              have e1 : ((p.length : Int) + 1) = ((p.length + 1 : Nat) : Int) := by omega
              rw [e1]
              refine pX12_isGone (x := fun i => if i = 0 then s else p.getD (i - 1) 0) (by omega) hx hxb (by omega) hf ?_ ?_
              · intro h
                have hnp := hgone.mp h
                refine zc1' ?_
                rw [← e1]
                refine skip ?_ R hLn
                rw [hg]
                show (if zDD s (p ++ [n]) then _ else 0) = 0
                rw [if_neg (fun h => ((zDD_iff hD).mp h).2 hnp)]
              · intro h
                have hnp : n ∉ p := fun hm => by
                  obtain ⟨i, hi, e⟩ := hgone.mpr hm
                  exact h i hi e
                have hz : zDD s (p ++ [n]) = true := (zDD_iff hD).mpr ⟨by omega, hnp⟩
                refine zb0' ⟨⟨by omega, by omega⟩, ?_⟩
                rintro _ rfl
                rw [zu_same, r21, Int.toNat_natCast, hJ _ _ (by omega) (by omega)]
                refine ⟨⟨by omega, by omega⟩, ?_⟩
                have hjm : (zjn L a b at' n : Int) = zJm L a b at' n := by
                  unfold zJm
                  rw [if_neg]
                  intro e
                  by_cases hne : p = []
                  · subst hne
                    have : at' = s := by rw [← hatd]; rfl
                    omega
                  · apply hnp
                    rw [← e, ← hatd, List.getLastD_eq_getLast?, List.getLast?_eq_some_getLast hne]
                    exact List.getLast_mem hne
                rw [hjm]
                have hLn2 : zLn (st R (p.length + 1) n) s (p ++ [n]) := by
                  refine ⟨by rw [st_ne (by omega)]; exact hLn.1, fun j v hj => ?_⟩
                  by_cases ej : j < p.length
                  · rw [List.getElem?_append_left ej] at hj
                    rw [st_ne (by omega)]; exact hLn.2 j v hj
                  · rw [List.getElem?_append_right (by omega)] at hj
                    have : j = p.length := by
                      have := (List.getElem?_eq_some_iff.mp hj).1
                      simp at this; omega
                    subst this
                    simp at hj
                    rw [st_at, hj]
                have := ih (p ++ [n]) (fun z2 m3 => hX12_ringsFrom_63 f Φ (rG3 f d) kk q ((p.length + 1 : Nat) : Int) ((k : Int) + 1) ways at' (w5 + z2) ((n : Int) + 1) m3) (st R (p.length + 1) n) (ways * zJm L a b at' n) (by rw [List.length_append]; simp; omega) (by rw [List.length_append]; simp; omega) hz (fun x hx => by
                    rw [List.mem_append, List.mem_singleton] at hx
                    rcases hx with h | h
                    · exact hpN x h
                    · rw [h]; omega) hLn2 (fun R' hLn' => ?_)
                · rw [List.length_append] at this
                  exact this
                · have hLn3 : zLn R' s p := ⟨hLn'.1, fun j v hj => hLn'.2 j v (by rw [List.getElem?_append_left (List.getElem?_eq_some_iff.mp hj).1]; exact hj)⟩
                  refine ihk (n + 1) _ R' (by omega) (by omega) (by omega) hLn3 ?_
                  show _ = ways * (zs n g + g n)
                  have egn : g n = zJm L a b at' n * zHr (zJm L a b) N s (k - p.length - 1) (p ++ [n]) := by
                    rw [hg]
                    show (if zDD s (p ++ [n]) then _ else 0) = _
                    rw [if_pos hz]
                  rw [egn, hw5, Int.mul_add, List.length_append, show k - (p.length + [n].length) = k - p.length - 1 by simp; omega, Int.mul_assoc]
      have hz0 : zs (s + 1) g = 0 := by
        rw [zs_ext (G := fun _ => 0) (fun v hv => hg0 v (by omega)), zs_0]
      exact key f (s + 1) 0 R (Nat.le_refl _) (by omega) (by omega) hLn (by rw [hz0, Int.mul_zero])
    · have hpl : p.length = k := by omega
      have ek : k - p.length = 0 := by omega
      rw [ek, zHr_base, hD, hatd] at hK
      simp only [Bool.true_and] at hK
      obtain ⟨x1, r, hp⟩ : ∃ x1 r, p = x1 :: r := by
        cases p with
        | nil => simp at hpl; omega
        | cons x1 r => exact ⟨x1, r, rfl⟩
      have hR1 : R 1 = x1 := hLn.2 0 x1 (by rw [hp]; rfl)
      have hx1 : x1 < N := hpN x1 (by rw [hp]; exact List.mem_cons_self)
      have hord : zOrd p = decide (x1 < at') := by
        unfold zOrd
        have e1 : p.headD 0 = x1 := by rw [hp]; rfl
        have e2 : p.reverse.headD 0 = at' := by
          have hne : p ≠ [] := by rw [hp]; simp
          rw [List.headD_eq_head?_getD, List.head?_reverse, ← hatd, List.getLastD_eq_getLast?, List.getLast?_eq_some_getLast hne]; rfl
        rw [e1, e2]
      rw [hord] at hK
      have hats : s < at' := by
        have hne : p ≠ [] := by rw [hp]; simp
        refine hDp.2 at' ?_
        rw [← hatd, List.getLastD_eq_getLast?, List.getLast?_eq_some_getLast hne]
        exact List.getLast_mem hne
      rw [hR1]
      refine ⟨⟨by omega, by omega⟩, ⟨by omega, by omega⟩, fun c2 => ?_, fun c2 => ⟨⟨by omega, by omega⟩, ?_⟩⟩
      · have := hK R hLn
        rwa [if_neg (by simp; omega), Int.mul_zero] at this
      · have e60 : (60 * (at' : Int) + (s : Int)).toNat = 60 * at' + s := by omega
        have := hK R hLn
        rw [if_pos (by simp; omega)] at this
        rw [e60, hJ _ _ (by omega) (by omega)]
        unfold zJm at this
        rwa [if_neg (by omega)] at this
theorem pX12_rings0 {f : Nat} {Φ : Int → aj_M → Prop} {q : List Nat} {m : aj_M} {N L : Nat} {a b : Nat → Nat} (H : nR m q N L a b) (hJ : ∀ u v, u < 60 → v < 60 → m (21 :: q) (60 * u + v) = zjn L a b u v) (hFew : zFew N L a b) {len : Nat} (hl : 1 ≤ len ∧ len ≤ 6) (hf : 300 ≤ f) (hK : ∀ m' : aj_M, zo [30 :: q] m m' → Φ (zRv N L a b len) m') : hX12_rings_28 f Φ f q len 0 0 m := by
  have hN : N ≤ 60 := H.2.2.2.1
  have hL : L ≤ 144 := H.2.2.2.2.1
  have r30 : ∀ R : Nat → Int, aj_ur m (30 :: q) R (30 :: q) = R := fun R => by rw [zr_ur, if_pos rfl]
  have r21 : ∀ R : Nat → Int, aj_ur m (30 :: q) R (21 :: q) = m (21 :: q) := fun R => by rw [zr_ur, if_neg (by simp)]
  have r0 : ∀ R : Nat → Int, aj_ur m (30 :: q) R q = m q := fun R => by rw [zr_ur, if_neg (by simp)]
  obtain ⟨g, hg⟩ : ∃ g : Nat → Int, g = fun k => if len = 1 then (zjn L a b k k : Int) else if len = 2 then zs N (fun t => if k < t then zPr (zJm L a b k t) else 0) else zRy (zJm L a b) N k (len - 1) := ⟨_, rfl⟩
  have eV : zs N g = zRv N L a b len := by
    rw [hg]
    unfold zRv
    by_cases h1 : len = 1
    · rw [if_pos h1]; exact zs_ext (fun k _ => if_pos h1)
    · rw [if_neg h1]
      by_cases h2 : len = 2
      · rw [if_pos h2]; exact zs_ext (fun k _ => by rw [if_neg h1, if_pos h2])
      · rw [if_neg h2]; exact zs_ext (fun k _ => by rw [if_neg h1, if_neg h2])
  have key : ∀ (kk n : Nat) (w : Int) (R : Nat → Int), n ≤ N → N - n < kk → w = zs n g → hX12_rings_28 f Φ kk q len w n (aj_ur m (30 :: q) R) := by
    intro kk
    induction kk with
    | zero => intro n w R b1 b2; omega
    | succ kk ih =>
      intro n w R b1 b2 hw
      unfold hX12_rings_28
      rw [r0, H.2.1]
      refine ⟨⟨by omega, by omega⟩, ⟨by omega, by omega⟩, fun c => ?_, fun c => ?_⟩
      · rw [hw, show n = N by omega, eV]
        exact hK _ (zo_ur (by simp))
      · have hnN : n < N := by omega
        rintro _ rfl
        rw [zu_same, Int.toNat_zero]
        -- the inner loop
        have fin : ∀ (R : Nat → Int) (w : Int), len ≠ 2 → w = zs (n + 1) g → hX12_rings_85 f Φ (fun q0 v1 v2 v3 m => hX12_rings_28 f Φ kk q0 v1 v2 v3 m) f q len w n ((n : Int) + 1) (aj_ur m (30 :: q) R) := by
          intro R w h2 hw
          obtain ⟨f', rfl⟩ : ∃ f', f = f' + 1 := ⟨f - 1, by omega⟩
          unfold hX12_rings_85
          rw [r0, H.2.1]
          exact ⟨⟨by omega, by omega⟩, ⟨by omega, by omega⟩, fun _ => ih (n + 1) w R (by omega) (by omega) hw, fun _ => ⟨⟨by omega, by omega⟩, fun _ => ih (n + 1) w R (by omega) (by omega) hw, fun c => by omega⟩⟩
        refine ⟨⟨by omega, by omega⟩, fun c1 => ⟨⟨by omega, by omega⟩, fun c2 => ?_, fun c2 => ?_⟩, fun c1 => ?_⟩
        · have el : len = 2 := by omega
          subst el
          refine zfor (H := fun k t (_ : Nat) => ∀ w' : Int, w' = w + zs t.toNat (fun t => if n < t then zPr (zJm L a b n t) else 0) → hX12_rings_85 f Φ (fun q0 v1 v2 v3 m => hX12_rings_28 f Φ kk q0 v1 v2 v3 m) k q ((2 : Nat) : Int) w' n t (aj_ur m (30 :: q) (st R 0 n))) (N := N) (fun t _ => n + 1 ≤ t) ?_ f (n + 1) 0 (by omega) (by omega) (by omega) w ?_
          · rintro k t _ ht htn hn w' hw'
            rw [Int.toNat_natCast] at hw'
            unfold hX12_rings_85
            rw [r0, r21, H.2.1]
            refine ⟨⟨by omega, by omega⟩, ⟨by omega, by omega⟩, fun c3 => ih (n + 1) w' _ (by omega) (by omega) ?_, fun c3 => ⟨by decide, fun c4 => absurd rfl c4, fun _ => ?_⟩⟩
            · rw [hw', hw, show t = N by omega]
              show _ = zs n g + g n
              congr 1
              rw [hg]; rfl
            · have e60 : (60 * (n : Int) + (t : Int)).toNat = 60 * n + t := by omega
              rw [e60, hJ _ _ (by omega) (by omega)]
              have hj0 := zJm_nn (L := L) (a := a) (b := b) n t
              have hj1 := zFew_J hFew hnN (show t < N by omega)
              have hjm : (zjn L a b n t : Int) = zJm L a b n t := by unfold zJm; rw [if_neg (by omega)]
              rw [hjm]
              have hpb : 0 ≤ zJm L a b n t * (zJm L a b n t - 1) ∧ zJm L a b n t * (zJm L a b n t - 1) < 2147483648 := by
                generalize zJm L a b n t = x at hj0 hj1
                have h := co_dec (N := 25) (P := fun i => 0 ≤ (i : Int) * ((i : Int) - 1) ∧ (i : Int) * ((i : Int) - 1) < 2147483648) (by decide) (i := x.toNat) (by omega)
                rwa [show ((x.toNat : Nat) : Int) = x by omega] at h
              refine ⟨⟨by omega, by omega⟩, ⟨by omega, by omega⟩, hpb, hn (by omega) 0 (by omega) _ ?_⟩
              rw [show ((t : Int) + 1).toNat = t + 1 by omega, hw']
              show _ = w + (zs t _ + (if n < t then zPr (zJm L a b n t) else 0))
              rw [if_pos (by omega)]
              unfold zPr
              omega
          · have : zs (n + 1) (fun t => if n < t then zPr (zJm L a b n t) else 0) = 0 := by
              rw [zs_ext (G := fun _ => 0) (fun v hv => if_neg (by omega)), zs_0]
            rw [show (((n + 1 : Nat) : Int)).toNat = n + 1 by omega, this, Int.add_zero]
        · have el : (len : Int) = ((len - 1 : Nat) : Int) + 1 := by omega
          unfold wX12_ringsFrom
          have hgo := rf_go H hJ hnN (k := len - 1) (by omega) hf 8 [] (fun z1 m2 => hX12_rings_85 f Φ (fun q0 v1 v2 v3 m => hX12_rings_28 f Φ kk q0 v1 v2 v3 m) f q len (w + z1) n ((n : Int) + 1) m2) (st R 0 n) 1 (by simp; omega) (by simp) rfl (fun x hx => by simp at hx) ⟨st_at, fun i v h => by simp at h⟩ (fun R' hR' => by
            refine fin R' _ (by omega) ?_
            rw [hw]
            show _ = zs n g + g n
            congr 1
            rw [Int.one_mul, hg]
            show _ = if len = 1 then _ else if len = 2 then _ else _
            rw [if_neg (by omega), if_neg (by omega)]
            rfl)
          rw [← el] at hgo
          exact hgo
        · have e60 : (60 * (n : Int) + (n : Int)).toNat = 60 * n + n := by omega
          rw [r21, e60, hJ _ _ (by omega) (by omega)]
          refine ⟨⟨by omega, by omega⟩, fin _ _ (by omega) ?_⟩
          rw [hw]
          show _ = zs n g + g n
          congr 1
          rw [hg]
          show _ = if len = 1 then _ else _
          rw [if_pos (by omega)]
  have := key f 0 0 (m (30 :: q)) (by omega) (by omega) rfl
  rw [zm_ur_self] at this
  exact this
/-! few links: a works has twelve arcs at most, each at most two ends at a node -/
def gInj (k a b n x y : Int) : Bool := (List.range 12).all fun g => if (g : Int) < n then decide (gT k a b x g = gT k a b y g → x = y) else true
theorem gInj_all : gAll gInj = true := by decide +kernel
theorem g_inj {k a b n x y g : Int} (h : gOK k a b n) (hx : 0 ≤ x) (hx2 : x < n) (hy : 0 ≤ y) (hy2 : y < n) (hg : 0 ≤ g) (hg2 : g < n) (e : gT k a b x g = gT k a b y g) : x = y := by
  have h12 := gOK_n h
  have h1 := gAll_of gInj_all (gL_mem h) (gOK_n h).2 hx hx2 hy hy2
  unfold gInj at h1
  have h2 := List.all_eq_true.mp h1 g.toNat (List.mem_range.mpr (by omega))
  rw [← gT_N, show ((g.toNat : Nat) : Int) = g by omega, if_pos hg2, decide_eq_true_eq] at h2
  exact h2 e
