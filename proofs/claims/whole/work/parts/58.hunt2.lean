/-! THE SEARCH: its bounds, and the class's steps -/
def zRk (r : zSr) (st sh : Nat) (P : (Nat → Nat) → Prop) : Prop := r.2.2.1 ≤ 5000 ∧ st + r.2.2.2 ≤ r.2.2.1 + sh ∧ (r.1 = 0 → st + r.2.2.2 + 1 ≤ r.2.2.1 + sh) ∧ r.1 ≤ 2 ∧ P r.2.1
theorem zlp_ok {R : (Nat → Nat) → (Nat → Nat) → Nat → Nat → zSr} {near : Nat → Nat} {u n : Nat} {cd : Nat → Bool} (P : (Nat → Nat) → Prop) (hP : P near) (hR : ∀ v shut st sh, v < n → cd v = true → st ≤ 5000 → zRk (R (zJn near u v) shut st sh) st sh P) : ∀ k v shut st sh, v + k ≤ n → st ≤ 5000 → (zlp R near u cd k v shut st sh).2.2.1 ≤ 5000 ∧ st + (zlp R near u cd k v shut st sh).2.2.2 ≤ (zlp R near u cd k v shut st sh).2.2.1 + sh ∧ (zlp R near u cd k v shut st sh).1 ≤ 2 ∧ P (zlp R near u cd k v shut st sh).2.1
  | 0, v, shut, st, sh, _, hst => ⟨hst, Nat.le_refl _, Nat.zero_le _, hP⟩
  | k + 1, v, shut, st, sh, hvk, hst => by
    unfold zlp
    by_cases hc : cd v = true
    · rw [if_pos hc]
      obtain ⟨h1, h2, h3, h4, h5⟩ := hR v shut st sh (by omega) hc hst
      by_cases h0 : (R (zJn near u v) shut st sh).1 = 0
      · rw [if_pos h0]
        have ih := zlp_ok P hP hR k (v + 1) (sn shut u (shut u ||| 2 ^ v)) (R (zJn near u v) shut st sh).2.2.1 ((R (zJn near u v) shut st sh).2.2.2 + 1) (by omega) h1
        have := h3 h0
        exact ⟨ih.1, by omega, ih.2.2.1, ih.2.2.2⟩
      · rw [if_neg h0]; exact ⟨h1, h2, h4, h5⟩
    · rw [if_neg hc]; exact zlp_ok P hP hR k (v + 1) shut st sh (by omega) hst
theorem zgo_ok {dg g n : Nat} (hn : n ≤ 14) (hg : 3 ≤ g) : ∀ d near δ shut st sh, zIv dg n near δ → st ≤ 5000 → zRk (zgo dg g n d near shut st sh) st sh (fun nr => ∃ δ', zIv dg n nr δ') := by
  intro d
  induction d with
  | zero => intro near δ shut st sh hI hst; exact ⟨hst, Nat.le_refl _, fun h => (by cases h), Nat.le_refl 2, δ, hI⟩
  | succ d ih =>
    intro near δ shut st sh hI hst
    unfold zgo
    by_cases h5 : 5000 ≤ st
    · rw [if_pos h5]; exact ⟨hst, Nat.le_refl _, fun h => (by cases h), Nat.le_refl 2, δ, hI⟩
    · rw [if_neg h5]
      by_cases hu : zlu dg near n 0 = n
      · rw [if_pos hu]; exact ⟨by show st + 1 ≤ 5000; omega, by show st + sh ≤ st + 1 + sh; omega, fun h => (by cases h), (show 1 ≤ 2 by decide), δ, hI⟩
      · rw [if_neg hu]
        have hlt : zlu dg near n 0 < n := by have := (zlu_ge (dg := dg) (near := near) n 0).2; omega
        have hpu := zlu_at n 0 (by omega) (dg := dg) (near := near)
        generalize zlu dg near n 0 = u at *
        have := zlp_ok (R := zgo dg g n d) (near := near) (u := u) (n := n) (cd := zcd dg g n near (shut u) u) (fun nr => ∃ δ', zIv dg n nr δ') ⟨δ, hI⟩ (fun v shut' st' sh' hv hc hst' => by
          obtain ⟨c1, c2, c3⟩ := zcd_new hg hlt hc
          exact ih _ (δ + 1) shut' st' sh' (zIv_join hn hI hlt hv c3 c1 hpu c2) hst') (n - (u + 1)) (u + 1) shut (st + 1) sh (by omega) (by omega)
        exact ⟨this.1, by omega, fun _ => by omega, this.2.2.1, this.2.2.2⟩
theorem pX2_leastUnfilled {f : Nat} {Φ : Int → aj_M → Prop} {m : aj_M} {dg n : Nat} {near : Nat → Nat} (h0 : m [10, 0] 0 = dg) (hd : dg ≤ 4) (h2 : m [10, 0] 2 = n) (hn : n ≤ 14) (h6 : ∀ v, v < n → m [6, 10, 0] v = near v) (hnr : ∀ v, v < n → near v < 2 ^ 14) (hf : 300 ≤ f) (h1 : zlu dg near n 0 < n → Φ (zlu dg near n 0 : Nat) m) (hno : zlu dg near n 0 = n → Φ (-1) m) : wX2_leastUnfilled f Φ [10, 0] m := by
  unfold wX2_leastUnfilled
  refine zfor (H := fun k u (_ : Nat) => hX2_leastUnfilled_2 f Φ k [10, 0] u m) (N := n) (fun u _ => zlu dg near (n - u) u = zlu dg near n 0) ?_ f 0 0 (by omega) (by omega) rfl
  intro k u _ hu hI hnx
  unfold hX2_leastUnfilled_2
  rw [h2]
  refine ⟨⟨by omega, by omega⟩, ⟨by omega, by omega⟩, fun c => hno ?_, fun c => ?_⟩
  · rw [← hI, show n - u = 0 by omega]; show u = n; omega
  · have hun : u < n := by omega
    have e : zlu dg near (n - u) u = if zpc (near u) < dg then u else zlu dg near (n - (u + 1)) (u + 1) := by
      rw [show n - u = (n - (u + 1)) + 1 by omega]; rfl
    rw [e] at hI
    refine pX2_isUnfilled h0 hd (by omega) (h6 u hun) (by have := hnr u hun; omega) (fun hp => zc1' ?_) (fun hp => zb0' (hnx hun 0 ?_))
    · rw [if_pos hp] at hI
      rw [← hI] at h1
      exact h1 hun
    · rw [if_neg hp] at hI; exact hI
theorem zi_orbit {x v : Nat} (hx : x < 2 ^ 14) (hv : v < 14) : aj_or (x : Int) (aj_shl 1 (v : Int)) = ((x ||| 2 ^ v : Nat) : Int) := by
  have : 2 ^ v < 2 ^ 14 := Nat.pow_lt_pow_right (by decide) hv
  rw [zi_shl (by omega), zi_or (by omega) (by omega)]
theorem ms_go {f : Nat} {m : aj_M} {dg g n : Nat} (h0 : m [10, 0] 0 = dg) (hd : dg ≤ 4) (h1 : m [10, 0] 1 = g) (h2 : m [10, 0] 2 = n) (hg : 3 ≤ g ∧ g ≤ 8) (hn : n ≤ 14) (hf : 300 ≤ f) : ∀ (d δ : Nat) (Φ : aj_M → Prop) (near shut : Nat → Nat) (s sh : Nat) (NR SR : Nat → Int), d + δ = 32 → zIv dg n near δ → (∀ v, v < n → NR v = near v) → (∀ v, v < n → SR v = shut v ∧ shut v < 2 ^ 14) → s ≤ 5000 → (∀ NR' SR' : Nat → Int, (∀ v, v < n → NR' v = (zgo dg g n d near shut s sh).2.1 v) → ((zgo dg g n d near shut s sh).1 = 0 → (∀ v, v < n → NR' v = near v) ∧ ∀ v, v < n → SR' v = shut v) → Φ (hT m (zgo dg g n d near shut s sh).1 (zgo dg g n d near shut s sh).2.2.1 (zgo dg g n d near shut s sh).2.2.2 NR' SR')) → rG0 f d 0 Φ [10, 0] δ (hT m 0 s sh NR SR) := by
  intro d
  induction d with
  | zero =>
    intro δ Φ near shut s sh NR SR hdδ hI
    have := zIv_d hd hn hI
    omega
  | succ d ih =>
    intro δ Φ near shut s sh NR SR hdδ hI hNR hSR hs hK
    have hδ := zIv_d hd hn hI
    show (if (0 : Nat) = 0 then wbX2_makeStep f Φ (rG0 f d) [10, 0] δ (hT m 0 s sh NR SR) else False)
    rw [if_pos rfl]
    unfold wbX2_makeStep
    rw [hT_s.2.2.2.2.1]
    unfold zgo at hK
    refine ⟨⟨by omega, by omega⟩, fun c => ?_, fun c => ⟨⟨by omega, by omega⟩, fun _ => ?_, fun c2 => by omega⟩⟩
    · rintro _ rfl
      rw [if_pos (by omega)] at hK
      rw [hT_w3]
      exact hK NR SR hNR (fun h => by cases h)
    · rw [if_neg (by omega)] at hK
      rintro _ rfl
      rw [hT_w4]
      have e0 : ∀ (o s h : Int) (NR SR : Nat → Int), hT m o s h NR SR [10, 0] 0 = dg := fun o s h NR SR => by rw [hT_s.1]; exact h0
      have e1 : ∀ (o s h : Int) (NR SR : Nat → Int), hT m o s h NR SR [10, 0] 1 = g := fun o s h NR SR => by rw [hT_s.2.1]; exact h1
      have e2 : ∀ (o s h : Int) (NR SR : Nat → Int), hT m o s h NR SR [10, 0] 2 = n := fun o s h NR SR => by rw [hT_s.2.2.1]; exact h2
      refine pX2_leastUnfilled (near := near) (e0 _ _ _ _ _) hd (e2 _ _ _ _ _) hn (fun v hv => by rw [hT_6]; exact hNR v hv) hI.1 hf (fun hlt => ?_) (fun heq => ?_)
      · rw [if_neg (by omega)] at hK
        have hpu := zlu_at n 0 (by omega) (dg := dg) (near := near)
        generalize hU : zlu dg near n 0 = u at *
        refine ⟨⟨by omega, by omega⟩, fun _ => ?_, fun c2 => by omega⟩
        refine pX2_partnersOf (near := near) (sh := shut u) (e0 _ _ _ _ _) hd (e1 _ _ _ _ _) (e2 _ _ _ _ _) hg hn hlt (fun v hv => by rw [hT_6]; exact hNR v hv) hI.1 (by rw [hT_7]; exact (hSR u hlt).1) (hSR u hlt).2 hf (fun P hP hPv => ⟨⟨by omega, by omega⟩, ?_⟩)
        have e7 : hT m 0 ((s : Int) + 1) sh NR SR (7 :: [10, 0]) (u : Int).toNat = (shut u : Nat) := by rw [Int.toNat_natCast]; show hT m 0 ((s : Int) + 1) sh NR SR [7, 10, 0] u = _; rw [hT_7]; exact (hSR u hlt).1
        rw [e7]
        -- the loop over partners
        have lp : ∀ (kk v s sh : Nat) (shut' : Nat → Nat) (NR SR : Nat → Int), u + 1 ≤ v → v ≤ n → n - v < kk → (∀ w, w < n → NR w = near w) → (∀ w, w < n → SR w = shut' w ∧ shut' w < 2 ^ 14) → (∀ w, w ≠ u → shut' w = shut w) → s ≤ 5000 → (∀ NR' SR' : Nat → Int, (∀ w, w < n → NR' w = (zlp (zgo dg g n d) near u (zcd dg g n near (shut u) u) (n - v) v shut' s sh).2.1 w) → ((zlp (zgo dg g n d) near u (zcd dg g n near (shut u) u) (n - v) v shut' s sh).1 = 0 → (∀ w, w < n → NR' w = near w) ∧ ∀ w, w < n → SR' w = shut w) → Φ (hT m (zlp (zgo dg g n d) near u (zcd dg g n near (shut u) u) (n - v) v shut' s sh).1 (zlp (zgo dg g n d) near u (zcd dg g n near (shut u) u) (n - v) v shut' s sh).2.2.1 (zlp (zgo dg g n d) near u (zcd dg g n near (shut u) u) (n - v) v shut' s sh).2.2.2 NR' SR')) → hX2_makeStep_66 f Φ (rG0 f d) kk [10, 0] δ u P (shut u : Nat) v (hT m 0 s sh NR SR) := by
          intro kk
          induction kk with
          | zero => intro v s sh shut' NR SR a1 a2 a3; omega
          | succ kk ihk =>
            intro v s sh shut' NR SR a1 a2 a3 hNR hSR hso hs hK
            unfold hX2_makeStep_66
            rw [e2]
            refine ⟨⟨by omega, by omega⟩, ⟨by omega, by omega⟩, fun c2 => ⟨⟨by omega, by omega⟩, ?_⟩, fun c2 => ?_⟩
            · rintro _ rfl
              have ev : n - v = 0 := by omega
              rw [ev] at hK
              have e7' : aj_u (hT m 0 s sh NR SR) (7 :: [10, 0]) (u : Int).toNat ((shut u : Nat) : Int) = hT m 0 s sh NR (st SR u (shut u : Nat)) := by rw [Int.toNat_natCast]; exact hT_w7
              rw [e7']
              refine hK NR _ hNR (fun _ => ⟨hNR, fun w hw => ?_⟩)
              by_cases e : w = u
              · subst e; rw [st_at]
              · rw [st_ne e, (hSR w hw).1, hso w e]
            · have hvn : v < n := by omega
              have ek : n - v = (n - (v + 1)) + 1 := by omega
              have hPb := hPv v
              have c3 : u < v ∧ v < n := by omega
              rw [decide_eq_true c3, Bool.true_and] at hPb
              rw [zi_bit (by omega) (by omega), hPb]
              rw [ek] at hK
              unfold zlp at hK
              by_cases hc : zcd dg g n near (shut u) u v = true
              · rw [if_pos hc]
                rw [if_pos hc] at hK
                obtain ⟨q1, q2, q3⟩ := zcd_new hg.1 hlt hc
                have hJ := zIv_join hn hI hlt hvn q3 q1 hpu q2
                refine ⟨by decide, fun c => absurd rfl c, fun _ => ⟨⟨by omega, by omega⟩, ⟨by omega, by omega⟩, ?_⟩⟩
                rintro _ rfl
                have r6 : ∀ (o s h : Int) (NR SR : Nat → Int), hT m o s h NR SR (6 :: [10, 0]) = NR := fun o s h NR SR => hT_6
                have r7 : ∀ (o s h : Int) (NR SR : Nat → Int), hT m o s h NR SR (7 :: [10, 0]) = SR := fun o s h NR SR => hT_7
                have w6 : ∀ (o s h x : Int) (NR SR : Nat → Int) (j : Nat), aj_u (hT m o s h NR SR) (6 :: [10, 0]) j x = hT m o s h (st NR j x) SR := fun o s h x NR SR j => hT_w6
                have w7 : ∀ (o s h x : Int) (NR SR : Nat → Int) (j : Nat), aj_u (hT m o s h NR SR) (7 :: [10, 0]) j x = hT m o s h NR (st SR j x) := fun o s h x NR SR j => hT_w7
                rw [Int.toNat_natCast, Int.toNat_natCast, r6, hNR u hlt, zi_orbit (hI.1 u hlt) (by omega), w6]
                refine ⟨⟨by omega, by omega⟩, ⟨by omega, by omega⟩, ?_⟩
                rintro _ rfl
                rw [r6, st_ne q3, hNR v hvn, zi_orbit (hI.1 v hvn) (by omega), w6]
                have hNRJ : ∀ w, w < n → st (st NR u ((near u ||| 2 ^ v : Nat) : Int)) v ((near v ||| 2 ^ u : Nat) : Int) w = (zJn near u v w : Nat) := by
                  intro w hw
                  unfold zJn
                  by_cases e1 : w = v
                  · subst e1; rw [st_at, sn_at]
                  · rw [st_ne e1, sn_ne e1]
                    by_cases e2 : w = u
                    · subst e2; rw [st_at, sn_at]
                    · rw [st_ne e2, sn_ne e2]; exact hNR w hw
                have hok := zgo_ok (dg := dg) (g := g) (n := n) hn hg.1 d (zJn near u v) (δ + 1) shut' s sh hJ hs
                refine ih (δ + 1) _ (zJn near u v) shut' s sh _ SR (by omega) hJ hNRJ hSR hs (fun NR' SR' hN' hS' => ?_)
                generalize hr : zgo dg g n d (zJn near u v) shut' s sh = r at *
                rw [hT_s.2.2.2.1]
                have ho := hok.2.2.2.1
                refine ⟨⟨by omega, by omega⟩, fun c4 => ?_, fun c4 => ?_⟩
                · have h0' : r.1 = 0 := by omega
                  rw [if_pos h0'] at hK
                  obtain ⟨t1, t2⟩ := hS' h0'
                  refine ⟨⟨by omega, by omega⟩, ⟨by omega, by omega⟩, ?_⟩
                  rintro _ rfl
                  have z1 : zJn near u v u = near u ||| 2 ^ v := by unfold zJn; rw [sn_ne (Ne.symm q3), sn_at]
                  have z2 : zJn near u v v = near v ||| 2 ^ u := by unfold zJn; rw [sn_at]
                  have l1 : near u ||| 2 ^ v < 2 ^ 14 := by rw [← z1]; exact hJ.1 u hlt
                  have l2 : near v ||| 2 ^ u < 2 ^ 14 := by rw [← z2]; exact hJ.1 v hvn
                  have hb2 : (near v).testBit u = false := by rw [← hI.2.1 u v hlt hvn]; exact q1
                  obtain ⟨k1, _, k12, k13⟩ := zi_clr (n := near u ||| 2 ^ v) (i := v) l1 (by omega)
                  have ek1 : k1 = near u := by
                    apply Nat.eq_of_testBit_eq
                    intro w
                    rw [k13, zt_or]
                    by_cases e : w = v
                    · subst e; simp [q1]
                    · simp [e, Ne.symm e]
                  obtain ⟨k2, _, k22, k23⟩ := zi_clr (n := near v ||| 2 ^ u) (i := u) l2 (by omega)
                  have ek2 : k2 = near v := by
                    apply Nat.eq_of_testBit_eq
                    intro w
                    rw [k23, zt_or]
                    by_cases e : w = u
                    · subst e; simp [hb2]
                    · simp [e, Ne.symm e]
                  rw [r6, t1 u hlt, z1, k12, ek1, w6]
                  refine ⟨⟨by omega, by omega⟩, ⟨by omega, by omega⟩, ?_⟩
                  rintro _ rfl
                  rw [r6, st_ne q3, t1 v hvn, z2, k22, ek2, w6]
                  refine ⟨⟨by omega, by omega⟩, ⟨by omega, by omega⟩, ?_⟩
                  rintro _ rfl
                  rw [r7, t2 u hlt, zi_orbit (hSR u hlt).2 (by omega), w7]
                  rintro _ rfl
                  rw [hT_w5, hT_s.2.2.2.2.2, h0']
                  have h2v : 2 ^ v < 2 ^ 14 := Nat.pow_lt_pow_right (by decide) (by omega)
                  refine ihk (v + 1) r.2.2.1 (r.2.2.2 + 1) (sn shut' u (shut' u ||| 2 ^ v)) _ _ (by omega) (by omega) (by omega) (fun w hw => ?_) (fun w hw => ?_) (fun w hw => by rw [sn_ne hw]; exact hso w hw) hok.1 hK
                  · by_cases e1 : w = v
                    · subst e1; rw [st_at]
                    · rw [st_ne e1]
                      by_cases e2 : w = u
                      · subst e2; rw [st_at]
                      · rw [st_ne e2, t1 w hw]
                        unfold zJn
                        rw [sn_ne e1, sn_ne e2]
                  · by_cases e2 : w = u
                    · subst e2; rw [st_at, sn_at]; exact ⟨rfl, Nat.or_lt_two_pow (hSR w hw).2 h2v⟩
                    · rw [st_ne e2, sn_ne e2, t2 w hw]; exact ⟨rfl, (hSR w hw).2⟩
                · have h0' : r.1 ≠ 0 := by omega
                  rw [if_neg h0'] at hK
                  exact hK NR' SR' hN' (fun h => absurd h h0')
              · rw [if_neg hc]
                rw [if_neg hc] at hK
                exact ⟨by decide, fun _ => ihk (v + 1) s sh shut' NR SR (by omega) (by omega) (by omega) hNR hSR hso hs hK, fun c => absurd c (by decide)⟩
        exact lp f (u + 1) (s + 1) sh shut NR SR (Nat.le_refl _) (by omega) (by omega) hNR hSR (fun _ _ => rfl) (by omega) hK
      · rw [if_pos heq] at hK
        refine ⟨by decide, fun c => absurd c (by decide), fun _ => ?_⟩
        rintro _ rfl
        rw [hT_w3]
        exact hK NR SR hNR (fun h => by cases h)
