/-! THE SEARCH: the reference -/
def rH (m : aj_M) (q : List Nat) (s h : Int) (NR SR : Nat → Int) : aj_M := aj_ur (aj_ur (aj_ur m q (st (st (m q) 39 s) 40 h)) (34 :: q) NR) (35 :: q) SR
theorem rH_off {m : aj_M} {q r : List Nat} {s h : Int} {NR SR : Nat → Int} (h0 : r ≠ q) (h6 : r ≠ 34 :: q) (h7 : r ≠ 35 :: q) : rH m q s h NR SR r = m r := by simp [rH, zr_ur, h0, h6, h7]
theorem rH_q {m : aj_M} {q : List Nat} {s h : Int} {NR SR : Nat → Int} : rH m q s h NR SR q = st (st (m q) 39 s) 40 h := by simp [rH, zr_ur]
theorem rH_34 {m : aj_M} {q : List Nat} {s h : Int} {NR SR : Nat → Int} : rH m q s h NR SR (34 :: q) = NR := by simp [rH, zr_ur]
theorem rH_35 {m : aj_M} {q : List Nat} {s h : Int} {NR SR : Nat → Int} : rH m q s h NR SR (35 :: q) = SR := by simp [rH, zr_ur]
theorem rH_w34 {m : aj_M} {q : List Nat} {s h x : Int} {NR SR : Nat → Int} {j : Nat} : aj_u (rH m q s h NR SR) (34 :: q) j x = rH m q s h (st NR j x) SR := by simp [rH, zu_push]
theorem rH_w35 {m : aj_M} {q : List Nat} {s h x : Int} {NR SR : Nat → Int} {j : Nat} : aj_u (rH m q s h NR SR) (35 :: q) j x = rH m q s h NR (st SR j x) := by simp [rH, zu_push]
theorem rH_w39 {m : aj_M} {q : List Nat} {s h x : Int} {NR SR : Nat → Int} : aj_u (rH m q s h NR SR) q 39 x = rH m q x h NR SR := by
  have e : st (st (st (m q) 39 s) 40 h) 39 x = st (st (m q) 39 x) 40 h := by
    funext k
    simp only [st]
    by_cases e3 : k = 39
    · subst e3; rfl
    · simp [e3]
  simp [rH, zu_push, e]
theorem rH_w40 {m : aj_M} {q : List Nat} {s h x : Int} {NR SR : Nat → Int} : aj_u (rH m q s h NR SR) q 40 x = rH m q s x NR SR := by
  have e : st (st (st (m q) 39 s) 40 h) 40 x = st (st (m q) 39 s) 40 x := by
    funext k
    simp only [st]
    by_cases e3 : k = 40
    · subst e3; rfl
    · simp [e3]
  simp [rH, zu_push, e]
theorem rH_s {m : aj_M} {q : List Nat} {s h : Int} {NR SR : Nat → Int} : rH m q s h NR SR q 36 = m q 36 ∧ rH m q s h NR SR q 37 = m q 37 ∧ rH m q s h NR SR q 38 = m q 38 ∧ rH m q s h NR SR q 39 = s ∧ rH m q s h NR SR q 40 = h := by
  rw [rH_q]
  refine ⟨?_, ?_, ?_, ?_, ?_⟩ <;> simp [st]
theorem pX12_bitsOf {f : Nat} {Φ : Int → aj_M → Prop} {x : Nat} {m : aj_M} (hx : x < 2 ^ 14) (hf : 300 ≤ f) (h : Φ (zpc x) m) : wX12_bitsOf f Φ x m := by
  unfold wX12_bitsOf
  refine zfor (H := fun k i (_ : Nat) => ∀ w : Int, w = zcnt x.testBit i.toNat → hX12_bitsOf_4 f Φ k x w i m) (N := 14) (fun _ _ => True) ?_ f 0 0 (by omega) (by omega) trivial 0 rfl
  rintro k i _ hi _ hn w rfl
  rw [Int.toNat_natCast]
  unfold hX12_bitsOf_4
  refine ⟨⟨by omega, by omega⟩, fun c => ?_, fun c => hn (by omega) 0 trivial _ ?_⟩
  · rw [show i = 14 by omega]; exact h
  · rw [zi_bit (by omega) (by omega), show ((i : Int) + 1).toNat = i + 1 by omega]
    show _ = ((zcnt x.testBit i + (if x.testBit i then 1 else 0) : Nat) : Int)
    split <;> omega
theorem pX12_ballOf {f : Nat} {Φ : Int → aj_M → Prop} {q : List Nat} {m : aj_M} {n r u : Nat} {near : Nat → Nat} (h2 : m q 38 = n) (hr : r ≤ 6) (hn : n ≤ 14) (hu : u < n) (h6 : ∀ v, v < n → m (34 :: q) v = near v) (hnr : ∀ v, v < n → near v < 2 ^ 14) (hf : 300 ≤ f) (hK : Φ (zball near n r (2 ^ u)) m) : wX12_ballOf f Φ q u r m := by
  have p14 : 2 ^ u < 2 ^ 14 := Nat.pow_lt_pow_right (by decide) (by omega)
  unfold wX12_ballOf
  rw [zi_shl (by omega)]
  have key : ∀ (k i s : Nat), i ≤ r → r - i < k → s < 2 ^ 14 → zball near n (r - i) s = zball near n r (2 ^ u) → hX12_ballOf_7 f Φ k q r s i m := by
    intro k
    induction k with
    | zero => intro i s a1 a2; omega
    | succ k ih =>
      intro i s a1 a2 hs he
      unfold hX12_ballOf_7
      refine ⟨⟨by omega, by omega⟩, ⟨by omega, by omega⟩, fun c => ?_, fun c => ?_⟩
      · rw [show r - i = 0 by omega] at he
        have e1 : s = zball near n r (2 ^ u) := he
        rw [e1]; exact hK
      · refine zfor (H := fun kk v (_ : Nat) => ∀ w : Int, w = zexa near s v.toNat → hX12_ballOf_19 f Φ (fun q0 v2 v3 v4 m => hX12_ballOf_7 f Φ k q0 v2 v3 v4 m) kk q r s i w v m) (N := n) (fun _ _ => True) ?_ f 0 0 (by omega) (by omega) trivial s rfl
        rintro kk v _ hv _ hnx w rfl
        rw [Int.toNat_natCast]
        have hl := zexa_lt (near := near) hs v (fun v' hv' => hnr v' (by omega))
        unfold hX12_ballOf_19
        rw [h2]
        refine ⟨⟨by omega, by omega⟩, ⟨by omega, by omega⟩, fun c2 => ?_, fun c2 => ⟨⟨by omega, by omega⟩, ?_⟩⟩
        · have ev : v = n := by omega
          subst ev
          refine ih (i + 1) _ (by omega) (by omega) hl ?_
          rw [← he, show r - i = (r - (i + 1)) + 1 by omega]
          rfl
        · have hnv := hnr v (by omega)
          have et : ((v : Int) + 1).toNat = v + 1 := by omega
          refine pX12_isIn (by omega) (by omega) (fun hb => zc1' ⟨⟨by omega, by omega⟩, hnx (by omega) 0 trivial _ ?_⟩) (fun hb => zb0' (hnx (by omega) 0 trivial _ ?_))
          · rw [et, Int.toNat_natCast, h6 v (by omega), zi_or (by omega) (by omega)]
            show _ = ((if s.testBit v then _ else _ : Nat) : Int)
            rw [if_pos hb]
          · rw [et, show (0 : Int) = ((0 : Nat) : Int) from rfl, zi_or (by omega) (by decide)]
            show _ = ((if s.testBit v then _ else _ : Nat) : Int)
            rw [hb, Nat.or_zero]; rfl
  exact key f 0 (2 ^ u) (by omega) (by omega) p14 rfl
theorem pX12_partnersOf {f : Nat} {Φ : Int → aj_M → Prop} {q : List Nat} {m : aj_M} {dg n g u sh : Nat} {near : Nat → Nat} (h0 : m q 36 = dg) (hd : dg ≤ 4) (h1 : m q 37 = g) (h2 : m q 38 = n) (hg : 3 ≤ g ∧ g ≤ 8) (hn : n ≤ 14) (hu : u < n) (h6 : ∀ v, v < n → m (34 :: q) v = near v) (hnr : ∀ v, v < n → near v < 2 ^ 14) (h7 : m (35 :: q) u = sh) (hsh : sh < 2 ^ 14) (hf : 300 ≤ f) (hK : ∀ P : Nat, P < 2 ^ 14 → (∀ v, P.testBit v = (decide (u < v ∧ v < n) && zcd dg g n near sh u v)) → Φ P m) : wX12_partnersOf f Φ q u m := by
  unfold wX12_partnersOf
  rw [h1, show (g : Int) - 2 = ((g - 2 : Nat) : Int) by omega]
  refine pX12_ballOf h2 (by omega) hn hu h6 hnr hf ?_
  have hbl := zball_lt hnr (g - 2) (2 ^ u) (Nat.pow_lt_pow_right (by decide) (by omega))
  generalize hBl : zball near n (g - 2) (2 ^ u) = Bl at hbl
  have cnt1 : ∀ v, u < v → zcnt (fun i => decide (u < i ∧ near i = 0)) (v + 1) = zcnt (fun i => decide (u < i ∧ near i = 0)) v + (if near v = 0 then 1 else 0) := by
    intro v hv
    show zcnt _ v + (if decide (u < v ∧ near v = 0) = true then 1 else 0) = _
    by_cases h : near v = 0
    · rw [if_pos (by simp [h, hv]), if_pos h]
    · rw [if_neg (by simp [h]), if_neg h]
  have key : ∀ (k v P : Nat) (wo : Int), u + 1 ≤ v → v ≤ n → n - v < k → P < 2 ^ 14 → (∀ w, P.testBit w = (decide (u < w ∧ w < v) && zcd dg g n near sh u w)) → wo = zcnt (fun i => decide (u < i ∧ near i = 0)) v → hX12_partnersOf_22 f Φ k q u P wo Bl v m := by
    intro k
    induction k with
    | zero => intro v P wo a1 a2 a3; omega
    | succ k ih =>
      intro v P wo a1 a2 a3 hP hPv hwo
      have hcl := zcnt_le (P := fun i => decide (u < i ∧ near i = 0)) v
      unfold hX12_partnersOf_22
      rw [h2]
      refine ⟨⟨by omega, by omega⟩, ⟨by omega, by omega⟩, fun c => hK P hP (fun w => by rw [hPv w, show v = n by omega]), fun c => ?_⟩
      have hvn : v < n := by omega
      have hnv := hnr v hvn
      have h2v : 2 ^ v < 2 ^ 14 := Nat.pow_lt_pow_right (by decide) (by omega)
      rw [Int.toNat_natCast, h6 v hvn]
      have hs := cnt1 v (by omega)
      have nxt : ∀ (P' : Nat) (wo' : Int), P' < 2 ^ 14 → (∀ w, P'.testBit w = (P.testBit w || (decide (w = v) && zcd dg g n near sh u v))) → wo' = wo + (if near v = 0 then 1 else 0) → hX12_partnersOf_22 f Φ k q u P' wo' Bl ((v : Int) + 1) m := by
        intro P' wo' hP' hP'v hw'
        refine ih (v + 1) P' wo' (by omega) (by omega) (by omega) hP' (fun w => ?_) ?_
        · rw [hP'v w, hPv w]
          by_cases ew : w = v
          · subst ew
            have c1 : ¬ (u < w ∧ w < w) := by omega
            have c2 : u < w ∧ w < w + 1 := by omega
            simp [c1, c2]
          · have c1 : (u < w ∧ w < v) ↔ (u < w ∧ w < v + 1) := by omega
            simp [ew, c1]
        · rw [hw', hs, hwo]; split <;> omega
      have keep : zcd dg g n near sh u v = false → ∀ wo', wo' = wo + (if near v = 0 then 1 else 0) → hX12_partnersOf_22 f Φ k q u P wo' Bl ((v : Int) + 1) m := fun hc wo' hw' => nxt P wo' hP (fun w => by rw [hc]; simp) hw'
      have h64 : (near v = 0 → zln near u v = false) → ∀ wo', wo' = wo + (if near v = 0 then 1 else 0) → hX12_partnersOf_64 f Φ (fun q0 v1 v2 v3 v4 v5 m => hX12_partnersOf_22 f Φ k q0 v1 v2 v3 v4 v5 m) q u P wo' Bl v m := by
        intro hal wo' hw'
        have hal' : (decide (near v = 0) && zln near u v) = false := by
          by_cases e : near v = 0
          · simp [e, hal e]
          · simp [e]
        unfold hX12_partnersOf_64
        rw [Int.toNat_natCast, Int.toNat_natCast, h6 v hvn]
        have := zpc_le (x := near v)
        refine ⟨⟨by omega, by omega⟩, pX12_bitsOf hnv hf ?_⟩
        rw [h0]
        refine ⟨⟨by omega, by omega⟩, ⟨by omega, by omega⟩, fun c1 => keep ?_ wo' hw', fun c1 => ⟨⟨by omega, by omega⟩, ?_⟩⟩
        · unfold zcd; rw [decide_eq_false (by omega)]; rfl
        · refine pX12_isIn (by omega) (by omega) (fun hb => zc1 (keep ?_ wo' hw')) (fun hb => zc0 ?_)
          · unfold zcd; rw [hBl, hb]; simp
          · rw [h7]
            refine ⟨⟨by omega, by omega⟩, ⟨by omega, by omega⟩, ?_⟩
            refine pX12_isIn (by omega) (by omega) (fun hb2 => zc1' (keep ?_ wo' hw')) (fun hb2 => zb0' ?_)
            · unfold zcd; rw [hb2]; simp
            · have hc : zcd dg g n near sh u v = true := by
                unfold zcd
                rw [hBl, hb, hb2, hal', decide_eq_true (show zpc (near v) < dg by omega)]; rfl
              rw [zi_orbit hP (by omega)]
              refine nxt (P ||| 2 ^ v) wo' (Nat.or_lt_two_pow hP h2v) (fun w => ?_) hw'
              rw [zt_or, hc, Bool.and_true]
              by_cases ew : w = v
              · simp [ew]
              · simp [ew, Ne.symm ew]
      have lon : zln near u v = decide (wo ≠ 0) := by
        unfold zln
        apply decide_eq_decide.mpr
        rw [hwo]; omega
      refine ⟨⟨by omega, by omega⟩, ⟨by omega, by omega⟩, fun c1 => ⟨⟨by omega, by omega⟩, ⟨by omega, by omega⟩, fun _ => h64 (fun e => by omega) _ (by rw [if_neg (by omega)]), fun c2 => absurd c2 c1⟩, fun c1 => ⟨⟨by omega, by omega⟩, ⟨by omega, by omega⟩, fun c2 => absurd c1 c2, fun _ => ⟨⟨by omega, by omega⟩, fun c3 => keep ?_ _ (by rw [if_pos (by omega)]), fun c3 => h64 (fun _ => ?_) _ (by rw [if_pos (by omega)])⟩⟩⟩
      · have e1 : near v = 0 := by omega
        unfold zcd
        rw [lon, decide_eq_true (show wo ≠ 0 by omega), decide_eq_true e1]; simp
      · rw [lon]; exact decide_eq_false (by omega)
  refine key f (u + 1) 0 0 (Nat.le_refl _) (by omega) (by omega) (by decide) (fun w => by
    have : ¬ (u < w ∧ w < u + 1) := by omega
    simp [this]) ?_
  rw [zcnt_ext (Q := fun _ => false) (u + 1) (fun i hi => by
    have : ¬ (u < i) := by omega
    simp [this])]
  have : ∀ n, zcnt (fun _ => false) n = 0 := by
    intro n
    induction n with
    | zero => rfl
    | succ n ih => unfold zcnt; rw [ih]; rfl
  rw [this]; rfl
theorem zi_xorbit {x v : Nat} (hx : x < 2 ^ 14) (hv : v < 14) : aj_xor (x : Int) (aj_shl 1 (v : Int)) = ((x ^^^ 2 ^ v : Nat) : Int) := by
  have : 2 ^ v < 2 ^ 14 := Nat.pow_lt_pow_right (by decide) hv
  rw [zi_shl (by omega), zi_xor (by omega) (by omega)]
theorem zxor_or {x v : Nat} (h : x.testBit v = false) : x ^^^ 2 ^ v = x ||| 2 ^ v := by
  apply Nat.eq_of_testBit_eq
  intro w
  rw [zt_xor, zt_or]
  by_cases e : v = w
  · subst e; simp [h]
  · simp [e]
theorem zxor_back {x v : Nat} (h : x.testBit v = false) : (x ||| 2 ^ v) ^^^ 2 ^ v = x := by
  apply Nat.eq_of_testBit_eq
  intro w
  rw [zt_xor, zt_or]
  by_cases e : v = w
  · subst e; simp [h]
  · simp [e]
theorem gs_go {f : Nat} {q : List Nat} {m : aj_M} {dg g n : Nat} (h0 : m q 36 = dg) (hd : dg ≤ 4) (h1 : m q 37 = g) (h2 : m q 38 = n) (hg : 3 ≤ g ∧ g ≤ 8) (hn : n ≤ 14) (hf : 300 ≤ f) : ∀ (d δ : Nat) (Φ : Int → aj_M → Prop) (near shut : Nat → Nat) (s sh : Nat) (NR SR : Nat → Int), d + δ = 32 → zIv dg n near δ → (∀ v, v < n → NR v = near v) → (∀ v, v < n → SR v = shut v ∧ shut v < 2 ^ 14) → s ≤ 5000 → (∀ NR' SR' : Nat → Int, (∀ v, v < n → NR' v = (zgo dg g n d near shut s sh).2.1 v) → ((zgo dg g n d near shut s sh).1 = 0 → (∀ v, v < n → NR' v = near v) ∧ ∀ v, v < n → SR' v = shut v) → Φ (zgo dg g n d near shut s sh).1 (rH m q (zgo dg g n d near shut s sh).2.2.1 (zgo dg g n d near shut s sh).2.2.2 NR' SR')) → rG4 f d 0 Φ q (rH m q s sh NR SR) := by
  intro d
  induction d with
  | zero =>
    intro δ Φ near shut s sh NR SR hdδ hI
    have := zIv_d hd hn hI
    omega
  | succ d ih =>
    intro δ Φ near shut s sh NR SR hdδ hI hNR hSR hs hK
    have hδ := zIv_d hd hn hI
    show (if (0 : Nat) = 0 then wbX12_goesStep f Φ (rG4 f d) q (rH m q s sh NR SR) else False)
    rw [if_pos rfl]
    unfold wbX12_goesStep
    rw [rH_s.2.2.2.1]
    unfold zgo at hK
    have e0 : ∀ (s h : Int) (NR SR : Nat → Int), rH m q s h NR SR q 36 = dg := fun s h NR SR => by rw [rH_s.1]; exact h0
    have e1 : ∀ (s h : Int) (NR SR : Nat → Int), rH m q s h NR SR q 37 = g := fun s h NR SR => by rw [rH_s.2.1]; exact h1
    have e2 : ∀ (s h : Int) (NR SR : Nat → Int), rH m q s h NR SR q 38 = n := fun s h NR SR => by rw [rH_s.2.2.1]; exact h2
    refine ⟨⟨by omega, by omega⟩, fun c => ?_, fun c => ?_⟩
    · rw [if_neg (by omega)] at hK
      rintro _ rfl
      rw [rH_w39]
      -- what is done with the least unfilled one
      have h54 : ∀ u, u = zlu dg near n 0 → hX12_goesStep_54 f Φ (rG4 f d) q u (rH m q ((s : Int) + 1) sh NR SR) := by
        rintro u hU
        have hule := (zlu_ge (dg := dg) (near := near) n 0).2
        rw [← hU] at hK hule
        unfold hX12_goesStep_54
        rw [e2]
        refine ⟨⟨by omega, by omega⟩, ⟨by omega, by omega⟩, fun c2 => ?_, fun c2 => ?_⟩
        · have hlt : u < n := by omega
          rw [if_neg (by omega)] at hK
          have hpu : zpc (near u) < dg := by rw [hU]; exact zlu_at n 0 (by omega)
          refine pX12_partnersOf (near := near) (sh := shut u) (e0 _ _ _ _) hd (e1 _ _ _ _) (e2 _ _ _ _) hg hn hlt (fun v hv => by rw [rH_34]; exact hNR v hv) hI.1 (by rw [rH_35]; exact (hSR u hlt).1) (hSR u hlt).2 hf (fun P hP hPv => ⟨⟨by omega, by omega⟩, ?_⟩)
          rw [rH_35, Int.toNat_natCast, (hSR u hlt).1]
          have lp : ∀ (kk v s sh : Nat) (shut' : Nat → Nat) (NR SR : Nat → Int), u + 1 ≤ v → v ≤ n → n - v < kk → (∀ w, w < n → NR w = near w) → (∀ w, w < n → SR w = shut' w ∧ shut' w < 2 ^ 14) → (∀ w, w ≠ u → shut' w = shut w) → s ≤ 5000 → (∀ NR' SR' : Nat → Int, (∀ w, w < n → NR' w = (zlp (zgo dg g n d) near u (zcd dg g n near (shut u) u) (n - v) v shut' s sh).2.1 w) → ((zlp (zgo dg g n d) near u (zcd dg g n near (shut u) u) (n - v) v shut' s sh).1 = 0 → (∀ w, w < n → NR' w = near w) ∧ ∀ w, w < n → SR' w = shut w) → Φ (zlp (zgo dg g n d) near u (zcd dg g n near (shut u) u) (n - v) v shut' s sh).1 (rH m q (zlp (zgo dg g n d) near u (zcd dg g n near (shut u) u) (n - v) v shut' s sh).2.2.1 (zlp (zgo dg g n d) near u (zcd dg g n near (shut u) u) (n - v) v shut' s sh).2.2.2 NR' SR')) → hX12_goesStep_82 f Φ (rG4 f d) kk q u P (shut u : Nat) v (rH m q s sh NR SR) := by
            intro kk
            induction kk with
            | zero => intro v s sh shut' NR SR a1 a2 a3; omega
            | succ kk ihk =>
              intro v s sh shut' NR SR a1 a2 a3 hNR hSR hso hs hK
              unfold hX12_goesStep_82
              rw [e2]
              refine ⟨⟨by omega, by omega⟩, ⟨by omega, by omega⟩, fun c3 => ⟨⟨by omega, by omega⟩, ?_⟩, fun c3 => ⟨⟨by omega, by omega⟩, ?_⟩⟩
              · rintro _ rfl
                have ev : n - v = 0 := by omega
                rw [ev] at hK
                rw [rH_w35, Int.toNat_natCast]
                refine hK NR _ hNR (fun _ => ⟨hNR, fun w hw => ?_⟩)
                by_cases e : w = u
                · subst e; rw [st_at]
                · rw [st_ne e, (hSR w hw).1, hso w e]
              · have hvn : v < n := by omega
                have ek : n - v = (n - (v + 1)) + 1 := by omega
                have hPb := hPv v
                have c4 : u < v ∧ v < n := by omega
                rw [decide_eq_true c4, Bool.true_and] at hPb
                rw [ek] at hK
                unfold zlp at hK
                refine pX12_isIn (by omega) (by omega) (fun hb => zc1 ?_) (fun hb => zc0 ?_)
                · have hc : zcd dg g n near (shut u) u v = true := by rw [← hPb]; exact hb
                  rw [if_pos hc] at hK
                  obtain ⟨q1, q2, q3⟩ := zcd_new hg.1 hlt hc
                  have hJ := zIv_join hn hI hlt hvn q3 q1 hpu q2
                  have hb2 : (near v).testBit u = false := by rw [← hI.2.1 u v hlt hvn]; exact q1
                  unfold wX12_joinsOrParts
                  refine ⟨⟨by omega, by omega⟩, ⟨by omega, by omega⟩, ?_⟩
                  rintro _ rfl
                  rw [Int.toNat_natCast, Int.toNat_natCast, rH_34, hNR u hlt, zi_xorbit (hI.1 u hlt) (by omega), zxor_or q1, rH_w34]
                  refine ⟨⟨by omega, by omega⟩, ⟨by omega, by omega⟩, ?_⟩
                  rintro _ rfl
                  rw [rH_34, st_ne q3, hNR v hvn, zi_xorbit (hI.1 v hvn) (by omega), zxor_or hb2, rH_w34]
                  have hNRJ : ∀ w, w < n → st (st NR u ((near u ||| 2 ^ v : Nat) : Int)) v ((near v ||| 2 ^ u : Nat) : Int) w = (zJn near u v w : Nat) := by
                    intro w hw
                    unfold zJn
                    by_cases e1 : w = v
                    · subst e1; rw [st_at, sn_at]
                    · rw [st_ne e1, sn_ne e1]
                      by_cases e2 : w = u
                      · subst e2; rw [st_at, sn_at]
                      · rw [st_ne e2, sn_ne e2]; exact hNR w hw
                  have hok := zgo_ok (dg := dg) (g := g) (n := n) hn hg.1 d (zJn near u v) (δ + 1) shut' s sh hJ hs
                  refine ih (δ + 1) _ (zJn near u v) shut' s sh _ SR (by omega) hJ hNRJ hSR hs (fun NR' SR' hN' hS' => ?_)
                  generalize hr : zgo dg g n d (zJn near u v) shut' s sh = r at *
                  have ho := hok.2.2.2.1
                  refine ⟨⟨by omega, by omega⟩, fun c5 => ?_, fun c5 => ?_⟩
                  · have h0' : r.1 = 0 := by omega
                    rw [if_pos h0'] at hK
                    obtain ⟨t1, t2⟩ := hS' h0'
                    have z1 : zJn near u v u = near u ||| 2 ^ v := by unfold zJn; rw [sn_ne (Ne.symm q3), sn_at]
                    have z2 : zJn near u v v = near v ||| 2 ^ u := by unfold zJn; rw [sn_at]
                    have l1 : near u ||| 2 ^ v < 2 ^ 14 := by rw [← z1]; exact hJ.1 u hlt
                    have l2 : near v ||| 2 ^ u < 2 ^ 14 := by rw [← z2]; exact hJ.1 v hvn
                    refine ⟨⟨by omega, by omega⟩, ⟨by omega, by omega⟩, ?_⟩
                    rintro _ rfl
                    rw [rH_34, t1 u hlt, z1, zi_xorbit l1 (by omega), zxor_back q1, rH_w34]
                    refine ⟨⟨by omega, by omega⟩, ⟨by omega, by omega⟩, ?_⟩
                    rintro _ rfl
                    rw [rH_34, st_ne q3, t1 v hvn, z2, zi_xorbit l2 (by omega), zxor_back hb2, rH_w34]
                    refine ⟨⟨by omega, by omega⟩, ⟨by omega, by omega⟩, ?_⟩
                    rintro _ rfl
                    rw [rH_35, t2 u hlt, zi_orbit (hSR u hlt).2 (by omega), rH_w35]
                    rintro _ rfl
                    rw [rH_w40, rH_s.2.2.2.2]
                    have h2v : 2 ^ v < 2 ^ 14 := Nat.pow_lt_pow_right (by decide) (by omega)
                    refine ihk (v + 1) r.2.2.1 (r.2.2.2 + 1) (sn shut' u (shut' u ||| 2 ^ v)) _ _ (by omega) (by omega) (by omega) (fun w hw => ?_) (fun w hw => ?_) (fun w hw => by rw [sn_ne hw]; exact hso w hw) hok.1 hK
                    · by_cases e1 : w = v
                      · subst e1; rw [st_at]
                      · rw [st_ne e1]
                        by_cases e2 : w = u
                        · subst e2; rw [st_at]
                        · rw [st_ne e2, t1 w hw]
                          unfold zJn
                          rw [sn_ne e1, sn_ne e2]
                    · by_cases e2 : w = u
                      · subst e2; rw [st_at, sn_at]; exact ⟨rfl, Nat.or_lt_two_pow (hSR w hw).2 h2v⟩
                      · rw [st_ne e2, sn_ne e2, t2 w hw]; exact ⟨rfl, (hSR w hw).2⟩
                  · have h0' : r.1 ≠ 0 := by omega
                    rw [if_neg h0'] at hK
                    exact hK NR' SR' hN' (fun h => absurd h h0')
                · have hc : ¬ zcd dg g n near (shut u) u v = true := by rw [← hPb, hb]; decide
                  rw [if_neg hc] at hK
                  exact ihk (v + 1) s sh shut' NR SR (by omega) (by omega) (by omega) hNR hSR hso hs hK
          exact lp f (u + 1) (s + 1) sh shut NR SR (Nat.le_refl _) (by omega) (by omega) hNR hSR (fun _ _ => rfl) (by omega) hK
        · have heq : u = n := by omega
          rw [if_pos heq] at hK
          exact hK NR SR hNR (fun h => by cases h)
      refine zfor (H := fun k u (_ : Nat) => hX12_goesStep_24 f Φ (rG4 f d) k q u (rH m q ((s : Int) + 1) sh NR SR)) (N := n) (fun u _ => zlu dg near (n - u) u = zlu dg near n 0) ?_ f 0 0 (by omega) (by omega) rfl
      intro k u _ hu hIu hnx
      unfold hX12_goesStep_24
      rw [e2]
      refine ⟨⟨by omega, by omega⟩, ⟨by omega, by omega⟩, fun c2 => h54 u ?_, fun c2 => ⟨⟨by omega, by omega⟩, ?_⟩⟩
      · rw [← hIu, show n - u = 0 by omega]; rfl
      · have hun : u < n := by omega
        have e : zlu dg near (n - u) u = if zpc (near u) < dg then u else zlu dg near (n - (u + 1)) (u + 1) := by
          rw [show n - u = (n - (u + 1)) + 1 by omega]; rfl
        rw [e] at hIu
        have := zpc_le (x := near u)
        rw [Int.toNat_natCast, rH_34, hNR u hun]
        refine pX12_bitsOf (hI.1 u hun) hf ?_
        rw [e0]
        refine ⟨⟨by omega, by omega⟩, ⟨by omega, by omega⟩, fun c3 => h54 u ?_, fun c3 => hnx hun 0 ?_⟩
        · rw [if_pos (by omega)] at hIu; exact hIu
        · rw [if_neg (by omega)] at hIu; exact hIu
    · rw [if_pos (by omega)] at hK
      exact hK NR SR hNR (fun h => by cases h)
/-- the whole search -/
def zSe2 (dg g n : Nat) : zSr := zgo dg g n 32 (fun _ => 0) (fun _ => 0) 0 0
theorem zIv_0 {dg n : Nat} : zIv dg n (fun _ => 0) 0 := by
  have h0 : zpc 0 = 0 := by decide
  refine ⟨fun _ _ => (show 0 < 2 ^ 14 by decide), fun u v _ _ => by simp, fun u v _ h => by simp at h, fun v _ => by rw [h0]; omega, ?_⟩
  rw [zs_ext (G := fun _ => 0) (fun v _ => by rw [h0]; rfl), zs_0]; rfl
theorem zSe2_b {dg g n : Nat} (hn : n ≤ 14) (hg : 3 ≤ g) : (zSe2 dg g n).1 ≤ 2 ∧ (zSe2 dg g n).2.2.1 ≤ 5000 ∧ (zSe2 dg g n).2.2.2 ≤ 5000 ∧ ∀ v, v < n → (zSe2 dg g n).2.1 v < 2 ^ 14 := by
  obtain ⟨h1, h2, h3, h4, δ, h5⟩ := zgo_ok (dg := dg) (g := g) (n := n) hn hg 32 (fun _ => 0) 0 (fun _ => 0) 0 0 zIv_0 (by omega)
  exact ⟨h4, h1, by show (zgo dg g n 32 _ _ 0 0).2.2.2 ≤ 5000; omega, h5.1⟩
theorem pX12_goesSearch {f : Nat} {Φ : Int → aj_M → Prop} {q : List Nat} {m : aj_M} {dg g n : Nat} (hd : dg ≤ 4) (hg : 3 ≤ g ∧ g ≤ 8) (hn : n ≤ 14) (hf : 300 ≤ f) (hK : ∀ m' : aj_M, (∀ r, r ∉ ([q, 34 :: q, 35 :: q] : List (List Nat)) → m' r = m r) → (∀ j, j < 36 → m' q j = m q j) → m' q 39 = ((zSe2 dg g n).2.2.1 : Nat) → m' q 40 = ((zSe2 dg g n).2.2.2 : Nat) → (∀ v, v < n → m' (34 :: q) v = ((zSe2 dg g n).2.1 v : Nat)) → Φ (zSe2 dg g n).1 m') : wX12_goesSearch f Φ q dg g n m := by
  unfold wX12_goesSearch
  rintro _ rfl
  rintro _ rfl
  rintro _ rfl
  rintro _ rfl
  rintro _ rfl
  generalize hM : aj_u (aj_u (aj_u m q 36 (dg : Int)) q 37 (g : Int)) q 38 (n : Int) = M
  have M36 : M q 36 = dg := by rw [← hM]; simp [aj_u]
  have M37 : M q 37 = g := by rw [← hM]; simp [aj_u]
  have M38 : M q 38 = n := by rw [← hM]; simp [aj_u]
  have Mo : ∀ r, r ≠ q → M r = m r := fun r hr => by rw [← hM, aj_u_off hr, aj_u_off hr, aj_u_off hr]
  have Ms : ∀ j, j < 36 → M q j = m q j := fun j hj => by rw [← hM, aj_u_at, if_neg (by omega), aj_u_at, if_neg (by omega), aj_u_at, if_neg (by omega)]
  have eM : aj_u (aj_u M q 39 0) q 40 0 = rH M q ((0 : Nat) : Int) ((0 : Nat) : Int) (M (34 :: q)) (M (35 :: q)) := by
    unfold rH
    rw [zm_ur_id (p := 35 :: q) (fun k => by rw [zr_ur, if_neg (by simp), zr_ur, if_neg (by simp)]), zm_ur_id (p := 34 :: q) (fun k => by rw [zr_ur, if_neg (by simp)]), zu_base (m := M), zu_same]
    rfl
  rw [eM]
  refine zfor (H := fun k i σ => hX12_goesSearch_28 f Φ k q i σ) (N := 14) (fun i σ => ∃ NR SR : Nat → Int, σ = rH M q ((0 : Nat) : Int) ((0 : Nat) : Int) NR SR ∧ ∀ v, v < i → NR v = 0 ∧ SR v = 0) ?_ f 0 _ (by omega) (by omega) ⟨_, _, rfl, fun v hv => by omega⟩
  rintro k i σ hi ⟨NR, SR, rfl, hz⟩ hnx
  unfold hX12_goesSearch_28
  refine ⟨⟨by omega, by omega⟩, fun c => ?_, fun c => ⟨⟨by omega, by omega⟩, ?_⟩⟩
  · unfold wX12_goesStep
    refine gs_go M36 hd M37 M38 hg hn hf 32 0 _ (fun _ => 0) (fun _ => 0) 0 0 NR SR (by omega) zIv_0 (fun v hv => (hz v (by omega)).1) (fun v hv => ⟨(hz v (by omega)).2, by decide⟩) (by omega) (fun NR' SR' h1 h2 => ?_)
    refine hK _ (fun r hr => ?_) (fun j hj => ?_) rH_s.2.2.2.1 rH_s.2.2.2.2 (fun v hv => by rw [rH_34]; exact h1 v hv)
    · simp only [List.mem_cons, List.not_mem_nil, or_false, not_or] at hr
      rw [rH_off hr.1 hr.2.1 hr.2.2, Mo r hr.1]
    · rw [rH_q, st_ne (by omega), st_ne (by omega), Ms j hj]
  · rintro _ rfl
    rw [rH_w34]
    refine ⟨⟨by omega, by omega⟩, ?_⟩
    rintro _ rfl
    rw [rH_w35, Int.toNat_natCast]
    refine hnx (by omega) _ ⟨_, _, rfl, fun v hv => ?_⟩
    by_cases e : v = i
    · subst e; rw [st_at, st_at]; exact ⟨rfl, rfl⟩
    · rw [st_ne e, st_ne e]; exact hz v (by omega)
/-- what the class knows of the last search -/
def zHk (m : aj_M) : Prop := m [10, 0] 0 = 0 ∨ ∃ dg g n : Nat, m [10, 0] 0 = dg ∧ m [10, 0] 1 = g ∧ m [10, 0] 2 = n ∧ (2 ≤ dg ∧ dg ≤ 4) ∧ (3 ≤ g ∧ g ≤ 8) ∧ (1 ≤ n ∧ n ≤ 14) ∧ m [10, 0] 3 = (zSe2 dg g n).1 ∧ m [10, 0] 4 = (zSe2 dg g n).2.2.1 ∧ m [10, 0] 5 = (zSe2 dg g n).2.2.2 ∧ ∀ v, v < n → m [6, 10, 0] v = ((zSe2 dg g n).2.1 v : Nat)
theorem pX2_canBe {f : Nat} {Φ : Int → aj_M → Prop} {d g n : Int} {m : aj_M} (hd : rI d) (hg : rI g) (hn : rI n) (h1 : 2 ≤ d ∧ d ≤ 4 ∧ 3 ≤ g ∧ g ≤ 8 ∧ 1 ≤ n ∧ n ≤ 14 → Φ 1 m) (h0 : ¬ (2 ≤ d ∧ d ≤ 4 ∧ 3 ≤ g ∧ g ≤ 8 ∧ 1 ≤ n ∧ n ≤ 14) → Φ 0 m) : wX2_canBe f Φ d g n m := by
  unfold wX2_canBe
  exact ⟨hd, fun c => h0 (by omega), fun c => ⟨hd, fun c => h0 (by omega), fun c => ⟨hg, fun c => h0 (by omega), fun c => ⟨hg, fun c => h0 (by omega), fun c => ⟨hn, fun c => h0 (by omega), fun c => ⟨hn, fun c => h0 (by omega), fun c => h1 (by omega)⟩⟩⟩⟩⟩⟩
theorem pX2_run {f : Nat} {Φ : aj_M → Prop} {m : aj_M} {dg g n : Nat} (hd : 2 ≤ dg ∧ dg ≤ 4) (hg : 3 ≤ g ∧ g ≤ 8) (hn : 1 ≤ n ∧ n ≤ 14) (hk : zHk m) (hr : ∀ j, j < 3 → rI (m [10, 0] j)) (hf : 300 ≤ f) (hK : ∀ m' : aj_M, (∀ r, r ∉ ([[10, 0], [6, 10, 0], [7, 10, 0]] : List (List Nat)) → m' r = m r) → zHk m' → (∀ j, j < 3 → rI (m' [10, 0] j)) → m' [10, 0] 3 = (zSe2 dg g n).1 → m' [10, 0] 4 = (zSe2 dg g n).2.2.1 → m' [10, 0] 5 = (zSe2 dg g n).2.2.2 → (∀ v, v < n → m' [6, 10, 0] v = ((zSe2 dg g n).2.1 v : Nat)) → Φ m') : wX2_run f Φ [10, 0] dg g n m := by
  unfold wX2_run
  refine pX2_canBe ⟨by omega, by omega⟩ ⟨by omega, by omega⟩ ⟨by omega, by omega⟩ (fun _ => zc1' ?_) (fun c => by omega)
  have anew : hX2_run_34 f Φ [10, 0] dg g n m := by
    unfold hX2_run_34
    rintro _ rfl
    rintro _ rfl
    rintro _ rfl
    rintro _ rfl
    rintro _ rfl
    rintro _ rfl
    generalize hM : aj_u (aj_u (aj_u m [10, 0] 0 (dg : Int)) [10, 0] 1 (g : Int)) [10, 0] 2 (n : Int) = M
    have M0 : M [10, 0] 0 = dg := by rw [← hM]; simp [aj_u]
    have M1 : M [10, 0] 1 = g := by rw [← hM]; simp [aj_u]
    have M2 : M [10, 0] 2 = n := by rw [← hM]; simp [aj_u]
    have Mo : ∀ r, r ≠ [10, 0] → M r = m r := fun r hr => by rw [← hM, aj_u_off hr, aj_u_off hr, aj_u_off hr]
    refine pJ7_fill (by omega) (by decide) (pJ7_fill (by omega) (by decide) ?_)
    have eM : ∀ NR SR : Nat → Int, aj_ur (aj_ur (aj_u (aj_u (aj_u M [10, 0] 3 0) [10, 0] 4 0) [10, 0] 5 0) (6 :: [10, 0]) NR) (7 :: [10, 0]) SR = hT M 0 ((0 : Nat) : Int) ((0 : Nat) : Int) NR SR := by
      intro NR SR
      unfold hT
      rw [zu_base (m := M), zu_same, zu_same]
      rfl
    rw [eM]
    unfold wX2_makeStep
    refine ms_go M0 hd.2 M1 M2 hg hn.2 hf 32 0 _ (fun _ => 0) (fun _ => 0) 0 0 _ _ (by omega) zIv_0 (fun v hv => ?_) (fun v hv => ⟨?_, by decide⟩) (by omega) (fun NR' SR' q1 q2 => ?_)
    · show (if v < 14 then (0 : Int) else _) = _
      rw [if_pos (by omega)]; rfl
    · show (if v < 14 then (0 : Int) else _) = _
      rw [if_pos (by omega)]; rfl
    · have hz : ∀ v, v < n → hT M (zSe2 dg g n).1 (zSe2 dg g n).2.2.1 (zSe2 dg g n).2.2.2 NR' SR' [6, 10, 0] v = ((zSe2 dg g n).2.1 v : Nat) := fun v hv => by rw [hT_6]; exact q1 v hv
      have s0 : hT M (zSe2 dg g n).1 (zSe2 dg g n).2.2.1 (zSe2 dg g n).2.2.2 NR' SR' [10, 0] 0 = dg := by rw [hT_s.1, M0]
      have s1 : hT M (zSe2 dg g n).1 (zSe2 dg g n).2.2.1 (zSe2 dg g n).2.2.2 NR' SR' [10, 0] 1 = g := by rw [hT_s.2.1, M1]
      have s2 : hT M (zSe2 dg g n).1 (zSe2 dg g n).2.2.1 (zSe2 dg g n).2.2.2 NR' SR' [10, 0] 2 = n := by rw [hT_s.2.2.1, M2]
      refine hK _ (fun r hr => ?_) (Or.inr ⟨dg, g, n, s0, s1, s2, hd, hg, hn, hT_s.2.2.2.1, hT_s.2.2.2.2.1, hT_s.2.2.2.2.2, hz⟩) (fun j hj => ?_) hT_s.2.2.2.1 hT_s.2.2.2.2.1 hT_s.2.2.2.2.2 hz
      · simp only [List.mem_cons, List.not_mem_nil, or_false, not_or] at hr
        rw [hT_off hr.1 hr.2.1 hr.2.2, Mo r hr.1]
      · have : j = 0 ∨ j = 1 ∨ j = 2 := by omega
        rcases this with rfl | rfl | rfl
        · show rI (hT M (zSe2 dg g n).1 (zSe2 dg g n).2.2.1 (zSe2 dg g n).2.2.2 NR' SR' [10, 0] 0)
          rw [s0]; exact ⟨by omega, by omega⟩
        · show rI (hT M (zSe2 dg g n).1 (zSe2 dg g n).2.2.1 (zSe2 dg g n).2.2.2 NR' SR' [10, 0] 1)
          rw [s1]; exact ⟨by omega, by omega⟩
        · show rI (hT M (zSe2 dg g n).1 (zSe2 dg g n).2.2.1 (zSe2 dg g n).2.2.2 NR' SR' [10, 0] 2)
          rw [s2]; exact ⟨by omega, by omega⟩
  refine ⟨⟨by omega, by omega⟩, hr 0 (by omega), fun _ => anew, fun c1 => ⟨⟨by omega, by omega⟩, hr 1 (by omega), fun _ => anew, fun c2 => ⟨⟨by omega, by omega⟩, hr 2 (by omega), fun _ => anew, fun c3 => ?_⟩⟩⟩
  rcases id hk with h | ⟨dg', g', n', a1, a2, a3, a4, a5, a6, a7, a8, a9, a10⟩
  · omega
  · have e1 : dg' = dg := by omega
    have e2 : g' = g := by omega
    have e3 : n' = n := by omega
    subst e1
    subst e2
    subst e3
    exact hK m (fun _ _ => rfl) hk hr a7 a8 a9 a10
