/-! RINGS COUNTED: how many, class and reference -/
def zPr (j : Int) : Int := j * (j - 1) / 2
def zRv (N L : Nat) (a b : Nat → Nat) (len : Nat) : Int := if len = 1 then zs N (fun k => (zjn L a b k k : Int)) else if len = 2 then zs N (fun k => zs N (fun t => if k < t then zPr (zJm L a b k t) else 0)) else zs N (fun s => zRy (zJm L a b) N s (len - 1))
/-- few links at each node, few in all -/
def zFew (N L : Nat) (a b : Nat → Nat) : Prop := (∀ u, u < N → zs N (fun v => zJm L a b u v) ≤ 24) ∧ zs N (fun u => zs N (fun v => zJm L a b u v)) ≤ 288
theorem zs_term {n : Nat} {F : Nat → Int} (h : ∀ v, v < n → 0 ≤ F v) {x : Nat} (hx : x < n) : F x ≤ zs n F := by
  rw [zs_split hx]
  have := zs_nn (n := n) (F := fun v => if v = x then 0 else F v) (fun v hv => by
    show 0 ≤ (if v = x then 0 else F v)
    split
    · omega
    · exact h v hv)
  omega
theorem zFew_J {N L : Nat} {a b : Nat → Nat} (h : zFew N L a b) {u v : Nat} (hu : u < N) (hv : v < N) : zJm L a b u v ≤ 24 := by
  have h1 := h.1 u hu
  have h2 := zs_term (n := N) (F := fun v => zJm L a b u v) (fun v _ => zJm_nn u v) hv
  omega
theorem zFew_W {N L : Nat} {a b : Nat → Nat} (h : zFew N L a b) {k : Nat} (hk : 2 ≤ k ∧ k ≤ 5) : 0 ≤ zs N (fun s => zWy (zJm L a b) N s k) ∧ zs N (fun s => zWy (zJm L a b) N s k) ≤ 2293235712 := by
  have hb := fun s (hs : s < N) => zHc_b (J := zJm L a b) (N := N) (s := s) (D := 24) (by decide) zJm_nn (fun u v hu hv => zFew_J h hu hv) h.1 hs
  obtain ⟨k', rfl⟩ : ∃ k', k = k' + 1 := ⟨k - 1, by omega⟩
  refine ⟨zs_nn (fun s hs => ((hb s hs) _ [] (fun x hx => by simp at hx)).1), ?_⟩
  have h1 : zs N (fun s => zWy (zJm L a b) N s (k' + 1)) ≤ zs N (fun s => 24 ^ (k' + 1) * zs N (fun v => zJm L a b s v)) := by
    refine zs_le (fun s hs => ?_)
    show zHc (zJm L a b) N s (k' + 1) [] ≤ _
    rw [zHc_step, ← zs_mul]
    refine zs_le (fun v hv => ?_)
    have h2 := (hb s hs) k' ([] ++ [v]) (fun x hx => by simp at hx; omega)
    have h3 := zJm_nn (L := L) (a := a) (b := b) s v
    have hp : (0 : Int) ≤ 24 ^ (k' + 1) := Int.pow_nonneg (by decide)
    split
    · show zJm L a b s v * _ ≤ _
      rw [Int.mul_comm]
      exact Int.mul_le_mul_of_nonneg_right h2.2 h3
    · exact Int.mul_nonneg hp h3
  rw [zs_mul] at h1
  have hp : (0 : Int) ≤ 24 ^ (k' + 1) := Int.pow_nonneg (by decide)
  have h4 : (24 : Int) ^ (k' + 1) * zs N (fun u => zs N (fun v => zJm L a b u v)) ≤ 24 ^ (k' + 1) * 288 := Int.mul_le_mul_of_nonneg_left h.2 hp
  have h5 : (24 : Int) ^ (k' + 1) ≤ 7962624 := by
    have : k' = 1 ∨ k' = 2 ∨ k' = 3 ∨ k' = 4 := by omega
    rcases this with rfl | rfl | rfl | rfl <;> decide
  omega
theorem zRv_b {N L : Nat} {a b : Nat → Nat} (hN : N ≤ 60) (hL : L ≤ 144) (h : zFew N L a b) {len : Nat} (hl : 1 ≤ len ∧ len ≤ 6) : rI (zRv N L a b len) := by
  have cst : ∀ (n : Nat) (F : Nat → Int) (c : Int), n ≤ 60 → 0 ≤ c → (∀ v, v < n → 0 ≤ F v ∧ F v ≤ c) → 0 ≤ zs n F ∧ zs n F ≤ 60 * c := by
    intro n F c hn hc hF
    refine ⟨zs_nn (fun v hv => (hF v hv).1), ?_⟩
    have h1 : zs n F ≤ zs n (fun _ => c) := zs_le (fun v hv => (hF v hv).2)
    have h2 : ∀ n : Nat, zs n (fun _ => c) = n * c := by
      intro n
      induction n with
      | zero => unfold zs; simp
      | succ n ih =>
        show zs n (fun _ => c) + c = _
        rw [ih, Int.natCast_add, Int.add_mul]; simp
    rw [h2] at h1
    have h3 : (n : Int) * c ≤ 60 * c := Int.mul_le_mul_of_nonneg_right (by omega) hc
    omega
  unfold zRv
  by_cases h1 : len = 1
  · rw [if_pos h1]
    have := cst N (fun k => (zjn L a b k k : Int)) 144 hN (by decide) (fun v hv => by have := zjn_le (L := L) (a := a) (b := b) (u := v) (v := v); omega)
    exact ⟨by omega, by omega⟩
  · rw [if_neg h1]
    by_cases h2 : len = 2
    · rw [if_pos h2]
      have hpr : ∀ j : Int, 0 ≤ j → j ≤ 24 → 0 ≤ zPr j ∧ zPr j ≤ 276 := by
        intro j j1 j2
        have h := co_dec (N := 25) (P := fun i => 0 ≤ zPr (i : Int) ∧ zPr (i : Int) ≤ 276) (by decide) (i := j.toNat) (by omega)
        rwa [show ((j.toNat : Nat) : Int) = j by omega] at h
      have := cst N (fun k => zs N (fun t => if k < t then zPr (zJm L a b k t) else 0)) 16560 hN (by decide) (fun k hk => by
        have := cst N (fun t => if k < t then zPr (zJm L a b k t) else 0) 276 hN (by decide) (fun t ht => by
          show 0 ≤ (if k < t then zPr (zJm L a b k t) else 0) ∧ (if k < t then zPr (zJm L a b k t) else 0) ≤ 276
          split
          · exact hpr _ (zJm_nn _ _) (zFew_J h hk ht)
          · omega)
        omega)
      exact ⟨by omega, by omega⟩
    · rw [if_neg h2]
      have hw := zFew_W h (k := len - 1) (by omega)
      have e : zs N (fun s => zWy (zJm L a b) N s (len - 1)) = 2 * zs N (fun s => zRy (zJm L a b) N s (len - 1)) := by
        rw [← zs_mul]
        exact zs_ext (fun s _ => zWy_2 zJm_sym (by omega))
      exact ⟨by omega, by omega⟩
theorem pX8_countOf {f : Nat} {Φ : Int → aj_M → Prop} {m : aj_M} {N L : Nat} {a b s e : Nat → Nat} (H : nC m [3, 8, 0] N L a b s e) (hFew : zFew N L a b) {len : Nat} (hl : 1 ≤ len ∧ len ≤ 6) (hf : 4000 ≤ f) (hK : ∀ m' : aj_M, zC0 m m' → Φ (zRv N L a b len) m') : wX8_countOf f Φ [8, 0] len m := by
  have hN : N ≤ 60 := H.2.2.2.1
  have hL : L ≤ 144 := H.2.2.2.2.1
  have hab := H.2.2.2.2.2.1.1
  have Hc := H
  unfold wX8_countOf
  refine ⟨⟨by omega, by omega⟩, fun c => ?_, fun c => ?_⟩
  · refine pX8_spreadOut H hf (fun m1 G4 G5 G6 hz h9 h4 h5 h6 HJ => ?_)
    have n0 : m1 (3 :: [8, 0]) 0 = N := by rw [hz.1 _ (by decide)]; exact H.1
    refine ⟨⟨by omega, by omega⟩, fun c2 => ?_, fun c2 => ?_⟩
    · -- three and more
      have hk : 2 ≤ len - 1 ∧ len - 1 ≤ 5 := by omega
      have hW := zFew_W hFew hk
      have eW : zs N (fun s => zWy (zJm L a b) N s (len - 1)) = 2 * zs N (fun s => zRy (zJm L a b) N s (len - 1)) := by
        rw [← zs_mul]
        exact zs_ext (fun s _ => zWy_2 zJm_sym hk.1)
      have el : (len : Int) = ((len - 1 : Nat) : Int) + 1 := by omega
      refine zfor (H := fun k i σ => ∀ w : Int, w = zs i.toNat (fun s => zWy (zJm L a b) N s (len - 1)) → hX8_countOf_29 f Φ k [8, 0] len w i σ) (N := N) (fun i σ => zC0 m1 σ ∧ σ [8, 0] 9 = 0 ∧ σ [4, 8, 0] = G4 ∧ σ [5, 8, 0] = G5 ∧ σ [6, 8, 0] = G6) ?_ f 0 m1 (by omega) (by omega) ⟨⟨fun _ _ => rfl, fun _ _ => rfl⟩, h9, h4, h5, h6⟩ 0 rfl
      rintro k i σ hi ⟨hzσ, h9, h4, h5, h6⟩ hn w hw
      rw [Int.toNat_natCast] at hw
      have n0σ : σ (3 :: [8, 0]) 0 = N := by rw [hzσ.1 _ (by decide)]; exact n0
      unfold hX8_countOf_29
      rw [n0σ]
      refine ⟨⟨by omega, by omega⟩, ⟨by omega, by omega⟩, fun c3 => ?_, fun c3 => ?_⟩
      · have ei : i = N := by omega
        subst ei
        rw [hw]
        refine ⟨by omega, ?_⟩
        have := hK σ (zC0_tr hz hzσ)
        unfold zRv at this
        rw [if_neg (by omega), if_neg (by omega)] at this
        rwa [eW, show 2 * zs i (fun s => zRy (zJm L a b) i s (len - 1)) / 2 = zs i (fun s => zRy (zJm L a b) i s (len - 1)) by omega]
      · have hiN : i < N := by omega
        refine pX8_knowClosings hN zJm_sym h4 h5 h6 HJ hiN (by omega) (fun G7 hG7 => ?_)
        rintro _ rfl
        generalize hM : aj_ur σ [7, 8, 0] G7 = M
        have M9 : M [8, 0] 9 = 0 := by rw [← hM, aj_ur_off (by decide)]; exact h9
        have eM : aj_u M (8 :: [8, 0]) (0 : Int).toNat (i : Int) = cW M ((0 : Nat) : Int) (st (M [8, 8, 0]) 0 i) := by
          unfold cW
          rw [zm_ur_id (p := [8, 0]) (fun k => ?_), zu_base]
          · rfl
          · simp only [st]
            split
            · next h => rw [h, M9]; rfl
            · rfl
        rw [eM, el]
        have hbnd := zHc_b (J := zJm L a b) (N := N) (s := i) (D := 24) (by decide) zJm_nn (fun u v hu hv => zFew_J hFew hu hv) hFew.1 hiN
        unfold wX8_waysOn
        refine ww_go (m := M) (J := zJm L a b) (G4 := G4) (G5 := G5) (G6 := G6) (G7 := G7) hN zJm_sym (fun u => if_pos rfl) (by rw [← hM, aj_ur_off (by decide)]; exact h4) (by rw [← hM, aj_ur_off (by decide)]; exact h5) (by rw [← hM, aj_ur_off (by decide)]; exact h6) (by rw [← hM, zr_ur, if_pos rfl]) HJ hiN hG7 hk (fun p hp => by have := hbnd 1 p hp; exact ⟨this.1, by have := this.2; omega⟩) (by omega) 8 [] _ 0 _ (by simp; omega) (by simp; omega) rfl (fun x hx => by simp at hx) ⟨st_at, fun i v h => by simp at h⟩ (by decide) (fun v hv => by simp) (fun R' hR' => ?_)
        rw [← el]
        have hzM : zC0 σ M := by rw [← hM]; exact zC0_ur (by decide)
        have hzW : zC0 M (cW M ((0 : Nat) : Int) R') := by
          refine ⟨fun r hr => cW_off (fun e => hr (by rw [e]; decide)) (fun e => hr (by rw [e]; decide)), fun j hj => by rw [cW_q, st_ne hj]⟩
        refine hn (by omega) _ ⟨zC0_tr hzσ (zC0_tr hzM hzW), by rw [cW_q, st_at]; rfl, by rw [cW_off (by decide) (by decide), ← hM, aj_ur_off (by decide)]; exact h4, by rw [cW_off (by decide) (by decide), ← hM, aj_ur_off (by decide)]; exact h5, by rw [cW_off (by decide) (by decide), ← hM, aj_ur_off (by decide)]; exact h6⟩ _ ?_
        rw [show ((i : Int) + 1).toNat = i + 1 by omega, hw]
        rfl
    · -- two
      have el : len = 2 := by omega
      subst el
      unfold wX8_countPairs
      have eV : zRv N L a b 2 = zs N (fun u => zs u (fun v => zPr (zJm L a b u v))) := by
        unfold zRv
        rw [if_neg (by decide), if_pos rfl]
        have e1 : ∀ n u, n ≤ N → u ≤ n → zs n (fun v => if v < u then zPr (zJm L a b u v) else 0) = zs u (fun v => zPr (zJm L a b u v)) := by
          intro n
          induction n with
          | zero => intro u _ hu; rw [show u = 0 by omega]; rfl
          | succ n ih =>
            intro u hn hu
            by_cases eu : u = n + 1
            · subst eu
              exact zs_ext (fun v hv => if_pos hv)
            · show zs n _ + (if n < u then _ else 0) = _
              rw [ih u (by omega) (by omega), if_neg (by omega)]; omega
        rw [zs_swap]
        refine zs_ext (fun u hu => ?_)
        rw [← e1 N u (by omega) (by omega)]
        exact zs_ext (fun v _ => by rw [zJm_sym v u])
      refine zfor (H := fun k i (_ : Nat) => ∀ w : Int, w = zs i.toNat (fun u => zs u (fun v => zPr (zJm L a b u v))) → hX8_countPairs_4 f (fun z2 m2 => Φ z2 m2) k [8, 0] w i m1) (N := N) (fun _ _ => True) ?_ f 0 0 (by omega) (by omega) trivial 0 rfl
      rintro k i _ hi _ hn w hw
      rw [Int.toNat_natCast] at hw
      unfold hX8_countPairs_4
      rw [n0]
      refine ⟨⟨by omega, by omega⟩, ⟨by omega, by omega⟩, fun c3 => ?_, fun c3 => ?_⟩
      · rw [hw, show i = N by omega, ← eV]
        exact hK m1 hz
      · refine zfor (H := fun kk j (_ : Nat) => ∀ w' : Int, w' = w + zs j.toNat (fun v => zPr (zJm L a b i v)) → hX8_countPairs_17 f (fun z2 m2 => Φ z2 m2) (fun q0 v1 v2 m => hX8_countPairs_4 f (fun z2 m2 => Φ z2 m2) k q0 v1 v2 m) kk [8, 0] w' i j m1) (N := i) (fun _ _ => True) ?_ f 0 0 (by omega) (by omega) trivial w (by show w = w + 0; omega)
        rintro kk j _ hj _ hnj w' hw'
        rw [Int.toNat_natCast] at hw'
        unfold hX8_countPairs_17
        refine ⟨⟨by omega, by omega⟩, ⟨by omega, by omega⟩, fun c4 => ?_, fun c4 => ?_⟩
        · refine hn (by omega) 0 trivial _ ?_
          rw [show ((i : Int) + 1).toNat = i + 1 by omega, hw', hw, show j = i by omega]
          rfl
        · have et : ((i : Int) * 60 + (j : Int)).toNat = 60 * i + j := by omega
          have h4' : m1 (4 :: [8, 0]) = G4 := h4
          rw [et, h4', HJ.1 i j (by omega) (by omega)]
          have hj0 := zJm_nn (L := L) (a := a) (b := b) i j
          have hj1 := zFew_J hFew (show i < N by omega) (show j < N by omega)
          have hpb : 0 ≤ zJm L a b i j * (zJm L a b i j - 1) ∧ zJm L a b i j * (zJm L a b i j - 1) < 2147483648 := by
            generalize zJm L a b i j = x at hj0 hj1
            have h := co_dec (N := 25) (P := fun i => 0 ≤ (i : Int) * ((i : Int) - 1) ∧ (i : Int) * ((i : Int) - 1) < 2147483648) (by decide) (i := x.toNat) (by omega)
            rwa [show ((x.toNat : Nat) : Int) = x by omega] at h
          refine ⟨⟨by omega, by omega⟩, hpb, hnj (by omega) 0 trivial _ ?_⟩
          rw [show ((j : Int) + 1).toNat = j + 1 by omega, hw']
          show _ = w + (zs j _ + zPr (zJm L a b i j))
          unfold zPr
          omega
  · -- one
    have el : len = 1 := by omega
    subst el
    have eV : zRv N L a b 1 = zcnt (fun l => decide (a l = b l)) L := by
      unfold zRv
      rw [if_pos rfl]
      have : ∀ l, l ≤ L → zs N (fun k => (zjn l a b k k : Int)) = zcnt (fun l => decide (a l = b l)) l := by
        intro l
        induction l with
        | zero => intro _; show zs N (fun _ => ((0 : Nat) : Int)) = 0; exact zs_0
        | succ l ih =>
          intro hl
          have e1 : zs N (fun k => (zjn (l + 1) a b k k : Int)) = zs N (fun k => (zjn l a b k k : Int) + (if k = a l ∧ a l = b l then 1 else 0)) := by
            refine zs_ext (fun k _ => ?_)
            rw [zjn_succ]
            by_cases h : k = a l ∧ a l = b l
            · rw [if_pos h, if_pos (by omega)]; omega
            · rw [if_neg h, if_neg (by omega)]; omega
          rw [e1, zs_add, ih (by omega)]
          show _ = ((zcnt _ l + (if decide (a l = b l) = true then 1 else 0) : Nat) : Int)
          have hal := hab l (by omega)
          by_cases h : a l = b l
          · rw [if_pos (by simpa using h), zs_one (x := a l) hal.1 (fun v _ hne => if_neg (fun h' => hne h'.1)), if_pos ⟨rfl, h⟩]; omega
          · rw [if_neg (by simpa using h), zs_ext (G := fun _ => 0) (fun v _ => if_neg (fun h' => h h'.2)), zs_0]; omega
      exact this L (Nat.le_refl _)
    have := hK m ⟨fun _ _ => rfl, fun _ _ => rfl⟩
    rw [eV] at this
    unfold wX8_countSelfLinks
    obtain ⟨g0, g1, gN1, gN, gL, gE, g2, g8, g9⟩ := H
    refine zfor (H := fun k l (_ : Nat) => ∀ w : Int, w = zcnt (fun l => decide (a l = b l)) l.toNat → hX8_countSelfLinks_4 f (fun z3 m3 => Φ z3 m3) k [8, 0] w l m) (N := L) (fun _ _ => True) ?_ f 0 0 (by omega) (by omega) trivial 0 rfl
    rintro k l _ hl _ hn w hw
    rw [Int.toNat_natCast] at hw
    have g1' : m (3 :: [8, 0]) 1 = L := g1
    unfold hX8_countSelfLinks_4
    rw [g1']
    refine ⟨⟨by omega, by omega⟩, ⟨by omega, by omega⟩, fun c3 => ?_, fun c3 => ?_⟩
    · rw [hw, show l = L by omega]; exact this
    · have h2 := g2 l (by omega)
      have hN' := hab l (by omega)
      have h2a : m (2 :: 3 :: [8, 0]) l = a l := h2.1
      have h2b : m (3 :: 3 :: [8, 0]) l = b l := h2.2
      rw [Int.toNat_natCast, h2a, h2b]
      have hs : zcnt (fun l => decide (a l = b l)) (l + 1) = zcnt (fun l => decide (a l = b l)) l + (if decide (a l = b l) = true then 1 else 0) := rfl
      refine ⟨⟨by omega, by omega⟩, ⟨by omega, by omega⟩, ⟨by omega, by omega⟩, ⟨by omega, by omega⟩, fun c4 => hn (by omega) 0 trivial _ ?_, fun c4 => hn (by omega) 0 trivial _ ?_⟩
      · rw [show ((l : Int) + 1).toNat = l + 1 by omega, hs, if_neg (by simp; omega), hw]; omega
      · rw [show ((l : Int) + 1).toNat = l + 1 by omega, hs, if_pos (by simp; omega), hw]; omega
