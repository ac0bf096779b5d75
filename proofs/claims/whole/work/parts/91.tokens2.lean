/-! TOKENS, the reference -/
def tSe (T : Nat → Int) (n p : Nat) : Int := if p < n then T p else -1
def tkR (R : Nat → Int) (T : Nat → Int) (n b : Nat) : Prop := R 6 = tkA T n b ∧ R 7 = tkE T n b ∧ R 9 = tkK T n b ∧ (tkK T n b = 23 → R 10 = tkN T n b)
def tkQ (R R0 : Nat → Int) : Prop := ∀ j, j ≠ 6 → j ≠ 7 → j ≠ 9 → j ≠ 10 → R j = R0 j
theorem tkQ_up {R R0 : Nat → Int} {j : Nat} {v : Int} (h : tkQ R R0) (hj : j = 6 ∨ j = 7 ∨ j = 9 ∨ j = 10) : tkQ (tup R j v) R0 := fun k h1 h2 h3 h4 => by rw [tup_o (by omega)]; exact h k h1 h2 h3 h4
theorem pIsSmall {f : Nat} {Φ : Int → aj_M → Prop} {m : aj_M} {v : Int} (hv : rI v) (h1 : 97 ≤ v → v ≤ 122 → Φ 1 m) (h0 : ¬ (97 ≤ v ∧ v ≤ 122) → Φ 0 m) : wX12_isSmall f Φ v m := ⟨hv, fun c => h0 (by omega), fun c => ⟨hv, fun d => h0 (by omega), fun d => h1 (by omega) (by omega)⟩⟩
theorem pIsDigit {f : Nat} {Φ : Int → aj_M → Prop} {m : aj_M} {v : Int} (hv : rI v) (h1 : 48 ≤ v → v ≤ 57 → Φ 1 m) (h0 : ¬ (48 ≤ v ∧ v ≤ 57) → Φ 0 m) : wX12_isDigit f Φ v m := ⟨hv, fun c => h0 (by omega), fun c => ⟨hv, fun d => h0 (by omega), fun d => h1 (by omega) (by omega)⟩⟩
section TKR
variable {f : Nat} {m : aj_M} {T R0 : Nat → Int} {n b : Nat}
theorem pSee {Φ : Int → aj_M → Prop} {R : Nat → Int} {v : Int} {p : Nat} (htx : ∀ j, j < n → m [3, 1] j = T j) (hn : n ≤ 900) (h8 : R 8 = n) (hv : v = p) (hp : p ≤ 900) (h : Φ (tSe T n p) (aj_ur m [1] R)) : wX12_see f Φ [1] v (aj_ur m [1] R) := by
  subst hv
  unfold wX12_see
  rw [zm_urs, h8, zm_uro (by decide), Int.toNat_natCast]
  refine ⟨⟨by omega, by omega⟩, ⟨by omega, by omega⟩, fun c => ?_, fun c => ⟨⟨by omega, by omega⟩, ?_⟩⟩
  · rw [tSe, if_neg (by omega)] at h
    exact h
  · rw [htx p (by omega)]
    rw [tSe, if_pos (by omega)] at h
    exact h
theorem tSe_b (hT : ∀ j, 0 ≤ T j ∧ T j < 256) {p : Nat} : -1 ≤ tSe T n p ∧ tSe T n p < 256 ∧ (p < n → tSe T n p = T p) ∧ (n ≤ p → tSe T n p = -1) := by
  have := hT p
  unfold tSe
  split <;> omega
theorem hX12_n254 {Φ : aj_M → Prop} (hf : 200 ≤ f) (hT : ∀ j, 0 ≤ T j ∧ T j < 256) (hn : n ≤ 900) (htx : ∀ j, j < n → m [3, 1] j = T j) (hK : ∀ R, tkQ R R0 → tkR R T n b → Φ (aj_ur m [1] R)) {a : Nat} (ea : tkA T n b = a) (han : a < n) (hlo : ¬ tLo T a = true) (hdg : ¬ tDg T a = true) : ∀ (k i : Nat) (R : Nat → Int), i ≤ 12 → 12 - i < k → tkQ R R0 → R 8 = n → R 6 = a → R 7 = ((a + 1 : Nat) : Int) → ((∃ j, j < i ∧ zL1.getD j 0 = T a ∧ R 9 = 30 + j) ∨ ((∀ j, j < i → zL1.getD j 0 ≠ T a) ∧ R 9 = 25)) → hX12_next_254 f Φ k [1] (i : Int) (aj_ur m [1] R) := by
  have hTa := hT a
  have eE : tkE T n b = a + 1 := by
    unfold tkE tkEa
    rw [ea, if_neg (by omega), if_neg hlo, if_neg hdg]
  have eK : tkK T n b = zSi (T a) zL1 30 := by
    unfold tkK tkKa
    rw [ea, if_neg (by omega), if_neg hlo, if_neg hdg]
  have n23 : tkK T n b ≠ 23 := by
    rw [eK]
    have := zSi_b (c := T a)
    omega
  have eC : tSe T n a = T a := (tSe_b hT).2.2.1 han
  intro k
  induction k with
  | zero => intro i R g1 g2; omega
  | succ k ih =>
    intro i R g1 g2 hq h8 h6 h7
    have b1 : ¬ (12 : Int) ≤ i → i < 12 ∧ i + 1 ≤ 12 ∧ 12 - (i + 1) < k := fun x => by omega
    have b2 : (12 : Int) ≤ i → i = 12 := fun x => by omega
    have b3 : rI (i : Int) := ⟨by omega, by omega⟩
    have b4 : a ≤ 900 := by omega
    have b5 : rI (T a) := ⟨by omega, by omega⟩
    intro h9
    unfold hX12_next_254
    refine pLen1 ⟨b3, by decide, fun c => ?_, fun c => ?_⟩
    · have ei : i = 12 := b2 c
      subst ei
      refine hK R hq ⟨by rw [h6, ea], by rw [h7, eE], ?_, fun e => absurd e n23⟩
      rw [eK]
      rcases h9 with ⟨j, j1, j2, j3⟩ | ⟨j1, j2⟩
      · rw [j3, ← j2, (zSi_y j1).1]
      · rw [j2, zSi_n j1]
    · rw [zm_urs, h6]
      refine pSee htx hn h8 rfl b4 ?_
      rw [eC]
      have hb := zL1_b (b1 c).1
      have b6 : rI (zL1.getD i 0) := ⟨Int.le_trans (by decide) hb.1, Int.lt_trans hb.2 (by decide)⟩
      refine pChr1 rfl (b1 c).1 ⟨b5, b6, fun d => ?_, fun d => ?_⟩
      · refine ih (i + 1) R (b1 c).2.1 (b1 c).2.2 hq h8 h6 h7 ?_
        rcases h9 with ⟨j, j1, j2, j3⟩ | ⟨j1, j2⟩
        · exact Or.inl ⟨j, by omega, j2, j3⟩
        · refine Or.inr ⟨fun j hj => ?_, j2⟩
          by_cases e : j = i
          · subst e
            exact fun x => d x.symm
          · exact j1 j (by omega)
      · rintro _ rfl
        rw [zm_urt]
        refine ih (i + 1) _ (b1 c).2.1 (b1 c).2.2 (tkQ_up hq (Or.inr (Or.inr (Or.inl rfl)))) (by rw [tup_o (by decide)]; exact h8) (by rw [tup_o (by decide)]; exact h6) (by rw [tup_o (by decide)]; exact h7) (Or.inl ⟨i, Nat.lt_succ_self i, d.symm, ?_⟩)
        rw [tup_s]
theorem hX12_n89 {Φ : aj_M → Prop} (hf : 1000 ≤ f) (hT : ∀ j, 0 ≤ T j ∧ T j < 256) (hn : n ≤ 900) (htx : ∀ j, j < n → m [3, 1] j = T j) (hK : ∀ R, tkQ R R0 → tkR R T n b → Φ (aj_ur m [1] R)) {a : Nat} (ea : tkA T n b = a) (han : a < n) (hlo : tLo T a = true) : ∀ (k p : Nat) (R : Nat → Int), a ≤ p → p ≤ n → n - p < k → zWh (tLo T) n p = zWh (tLo T) n a → tkQ R R0 → R 8 = n → R 6 = a → R 7 = p → hX12_next_89 f Φ k [1] (aj_ur m [1] R) := by
  have eE : tkE T n b = zWh (tLo T) n a := by
    unfold tkE tkEa
    rw [ea, if_neg (by omega), if_pos hlo]
  have eK : tkK T n b = zWf (fun j => T (a + j)) (zWh (tLo T) n a - a) 22 zKw 0 := by
    unfold tkK tkKa
    rw [ea, if_neg (by omega), if_pos hlo]
  have n23 : tkK T n b ≠ 23 := by
    rw [eK]
    rcases zWf_b (a := fun j => T (a + j)) (len := zWh (tLo T) n a - a) (d := 22) zKw 0 with g | g
    · omega
    · have : zKw.length = 22 := rfl
      omega
  intro k
  induction k with
  | zero => intro p R g1 g2 g3; omega
  | succ k ih =>
    intro p R g1 g2 g3 g4 hq h8 h6 h7
    have hb := tSe_b (n := n) hT (p := p)
    unfold hX12_next_89
    rw [zm_urs, h7]
    refine pSee htx hn h8 rfl (by omega) ?_
    refine pIsSmall ⟨by omega, by omega⟩ (fun c1 c2 => zb1 ?_) (fun c => zb0 ?_)
    · rintro _ rfl
      rw [zm_urs, zm_urt]
      have hp : p < n := Classical.byContradiction fun x => by
        have := hb.2.2.2 (by omega)
        omega
      have ec := hb.2.2.1 hp
      refine ih (p + 1) _ (by omega) (by omega) (by omega) ?_ (tkQ_up hq (by omega)) (by rw [tup_o (by omega)]; exact h8) (by rw [tup_o (by omega)]; exact h6) (by rw [tup_s, h7]; omega)
      rw [← g4, zWh_y (p := p) hp (decide_eq_true ⟨by omega, by omega⟩)]
    · have hw : zWh (tLo T) n a = p := by
        rw [← g4]
        refine zWh_n (fun x y => c ?_)
        have := of_decide_eq_true y
        have := hb.2.2.1 x
        omega
      have hin : ∀ j, j < p - a → 97 ≤ T (a + j) ∧ T (a + j) ≤ 122 := fun j hj => of_decide_eq_true (zWh_in (P := tLo T) (n := n) (p := a) (j := a + j) (by omega) (by omega))
      refine pX12_keyAt (a := fun j => T (a + j)) (len := p - a) (at' := a) (by omega) (by rw [zm_urs]; exact h6) (by rw [zm_urs, h7]; omega) (by omega) (fun j hj => ?_) (fun j hj => ?_) ?_
      · rw [zm_uro (by decide)]
        exact htx _ (by omega)
      · have := hin j hj
        exact ⟨by omega, by omega⟩
      · rintro _ rfl
        rw [zm_urt]
        refine hK _ (tkQ_up hq (by omega)) ⟨?_, ?_, ?_, fun e => absurd e n23⟩
        · rw [tup_o (by omega), h6, ea]
        · rw [tup_o (by omega), h7, eE, hw]
        · rw [tup_s, eK, hw]
theorem hX12_n146 {Φ : aj_M → Prop} (hf : 1000 ≤ f) (hT : ∀ j, 0 ≤ T j ∧ T j < 256) (hn : n ≤ 900) (htx : ∀ j, j < n → m [3, 1] j = T j) (hK : ∀ R, tkQ R R0 → tkR R T n b → Φ (aj_ur m [1] R)) {a : Nat} (ea : tkA T n b = a) (han : a < n) (hlo : ¬ tLo T a = true) (hdg : tDg T a = true) : ∀ (k d : Nat) (R : Nat → Int), a + d ≤ n → n - (a + d) < k → zWh (tDg T) n (a + d) = zWh (tDg T) n a → tkQ R R0 → R 8 = n → R 6 = a → R 7 = ((a + d : Nat) : Int) → (d ≤ 3 → R 10 = tkV T a d) → hX12_next_146 f Φ k [1] (aj_ur m [1] R) := by
  have eE : tkE T n b = zWh (tDg T) n a := by
    unfold tkE tkEa
    rw [ea, if_neg (by omega), if_neg hlo, if_pos hdg]
  have eK : tkK T n b = if zWh (tDg T) n a - a ≤ 3 then 23 else 25 := by
    unfold tkK tkKa
    rw [ea, if_neg (by omega), if_neg hlo, if_pos hdg]
  intro k
  induction k with
  | zero => intro d R g1 g2; omega
  | succ k ih =>
    intro d R g1 g2 g4 hq h8 h6 h7 hv
    have hb := tSe_b (n := n) hT (p := a + d)
    unfold hX12_next_146
    rw [zm_urs, h7]
    refine pSee htx hn h8 rfl (by omega) ?_
    refine pIsDigit ⟨by omega, by omega⟩ (fun c1 c2 => zb1 ?_) (fun c => zb0 ?_)
    · have hp : a + d < n := Classical.byContradiction fun x => by
        have := hb.2.2.2 (by omega)
        omega
      have ec := hb.2.2.1 hp
      have hw : zWh (tDg T) n (a + (d + 1)) = zWh (tDg T) n a := by
        rw [← g4, zWh_y (p := a + d) hp (decide_eq_true ⟨by omega, by omega⟩)]
        rfl
      rw [zm_urs, h6, h7]
      refine ⟨⟨by omega, by omega⟩, fun e => ?_, fun e => ?_⟩
      · rintro _ rfl
        rw [zm_urt]
        exact ih (d + 1) _ (by omega) (by omega) hw (tkQ_up hq (by omega)) (by rw [tup_o (by omega)]; exact h8) (by rw [tup_o (by omega)]; exact h6) (by rw [tup_s]; omega) (fun x => by omega)
      · refine pSee htx hn h8 rfl (by omega) ?_
        rintro _ rfl
        rintro _ rfl
        rw [zm_urt, zm_urs, zm_urt]
        refine ih (d + 1) _ (by omega) (by omega) hw (tkQ_up (tkQ_up hq (by omega)) (by omega)) (by rw [tup_o (by omega), tup_o (by omega)]; exact h8) (by rw [tup_o (by omega), tup_o (by omega)]; exact h6) (by rw [tup_s, tup_o (by omega), h7]; omega) (fun x => ?_)
        rw [tup_o (by omega), tup_s, hv (by omega), ec]
        rfl
    · have hw : zWh (tDg T) n a = a + d := by
        rw [← g4]
        refine zWh_n (fun x y => c ?_)
        have := of_decide_eq_true y
        have := hb.2.2.1 x
        omega
      rw [zm_urs, h6, h7]
      refine ⟨⟨by omega, by omega⟩, fun e => ?_, fun e => ?_⟩
      · rintro _ rfl
        rw [zm_urt]
        have e23 : tkK T n b = 23 := by rw [eK, if_pos (by omega)]
        refine hK _ (tkQ_up hq (by omega)) ⟨?_, ?_, ?_, fun _ => ?_⟩
        · rw [tup_o (by omega), h6, ea]
        · rw [tup_o (by omega), h7, eE, hw]
        · rw [tup_s, e23]
        · rw [tup_o (by omega), hv (by omega)]
          unfold tkN
          rw [eE, ea, hw, show a + d - a = d by omega]
      · rintro _ rfl
        rw [zm_urt]
        have e25 : tkK T n b = 25 := by rw [eK, if_neg (by omega)]
        refine hK _ (tkQ_up hq (by omega)) ⟨?_, ?_, ?_, fun x => by omega⟩
        · rw [tup_o (by omega), h6, ea]
        · rw [tup_o (by omega), h7, eE, hw]
        · rw [tup_s, e25]
theorem pX12_nextR {Φ : aj_M → Prop} (hf : 1000 ≤ f) (hT : ∀ j, 0 ≤ T j ∧ T j < 256) (hn : n ≤ 900) (hb : b ≤ n) (htx : ∀ j, j < n → m [3, 1] j = T j) (h8 : m [1] 8 = n) (h7 : m [1] 7 = b) (hK : ∀ R, tkQ R (m [1]) → tkR R T n b → Φ (aj_ur m [1] R)) : wX12_next f Φ [1] m := by
  have loop : ∀ (k p : Nat) (R : Nat → Int), b ≤ p → p ≤ n → n - p < k → zWh (tWs T) n p = tkA T n b → tkQ R (m [1]) → R 8 = n → R 6 = p → hX12_next_8 f Φ k [1] (aj_ur m [1] R) := by
    intro k
    induction k with
    | zero => intro p R g1 g2 g3; omega
    | succ k ih =>
      intro p R g1 g2 g3 g4 hq g8 g6
      have hc := tSe_b (n := n) hT (p := p)
      unfold hX12_next_8
      rw [zm_urs, g6]
      refine pSee htx hn g8 rfl (by omega) ⟨⟨by omega, by omega⟩, fun c => ?_, fun c => ?_⟩
      · rintro _ rfl
        rw [zm_urs, zm_urt, g6]
        have hp : p < n := Classical.byContradiction fun x => by
          have := hc.2.2.2 (by omega)
          omega
        have ec := hc.2.2.1 hp
        refine ih (p + 1) _ (by omega) (by omega) (by omega) ?_ (tkQ_up hq (by omega)) (by rw [tup_o (by omega)]; exact g8) (by rw [tup_s]; omega)
        rw [← g4, zWh_y (p := p) hp (decide_eq_true (Or.inl (by omega)))]
      · rw [zm_urs, g6]
        refine pSee htx hn g8 rfl (by omega) ⟨⟨by omega, by omega⟩, fun d => ?_, fun d => ?_⟩
        · have ea : tkA T n b = p := by
            rw [← g4]
            refine zWh_n (fun x y => ?_)
            have := of_decide_eq_true y
            have := hc.2.2.1 x
            omega
          rintro _ rfl
          rw [zm_urs, zm_urt, g6]
          have hq2 : tkQ (tup R 7 (p : Int)) (m [1]) := tkQ_up hq (by omega)
          have k8 : tup R 7 (p : Int) 8 = n := by rw [tup_o (by omega)]; exact g8
          have k6 : tup R 7 (p : Int) 6 = p := by rw [tup_o (by omega)]; exact g6
          have k7 : tup R 7 (p : Int) 7 = p := tup_s
          generalize tup R 7 (p : Int) = R2 at hq2 k8 k6 k7
          rw [zm_urs, k6, k8]
          refine ⟨⟨by omega, by omega⟩, ⟨by omega, by omega⟩, fun e => ?_, fun e => ?_⟩
          · have hp : p < n := by omega
            have ec := hc.2.2.1 hp
            refine pSee htx hn k8 rfl (by omega) ?_
            refine pIsSmall ⟨by omega, by omega⟩ (fun c1 c2 => zb1 ?_) (fun c1 => zb0 ?_)
            · exact hX12_n89 hf hT hn htx hK ea hp (decide_eq_true ⟨by omega, by omega⟩) f p R2 (by omega) (by omega) (by omega) rfl hq2 k8 k6 k7
            · rw [zm_urs, k6]
              have nlo : ¬ tLo T p = true := fun y => by
                have := of_decide_eq_true y
                omega
              refine pSee htx hn k8 rfl (by omega) ?_
              refine pIsDigit ⟨by omega, by omega⟩ (fun x1 x2 => zb1 ?_) (fun x1 => zb0 ?_)
              · rintro _ rfl
                rw [zm_urt]
                refine hX12_n146 hf hT hn htx hK ea hp nlo (decide_eq_true ⟨by omega, by omega⟩) f 0 _ (by omega) (by omega) rfl (tkQ_up hq2 (by omega)) (by rw [tup_o (by omega)]; exact k8) (by rw [tup_o (by omega)]; exact k6) (by rw [tup_o (by omega)]; exact k7) (fun _ => ?_)
                rw [tup_s]
                rfl
              · have ndg : ¬ tDg T p = true := fun y => by
                  have := of_decide_eq_true y
                  omega
                rintro _ rfl
                rintro _ rfl
                rw [zm_urs, zm_urt, zm_urt, k7]
                refine hX12_n254 (by omega) hT hn htx hK ea hp nlo ndg f 0 _ (by omega) (by omega) (tkQ_up (tkQ_up hq2 (by omega)) (by omega)) (by rw [tup_o (by omega), tup_o (by omega)]; exact k8) (by rw [tup_o (by omega), tup_o (by omega)]; exact k6) (by rw [tup_o (by omega), tup_s]; omega) (Or.inr ⟨fun j hj => absurd hj (by omega), tup_s⟩)
          · rintro _ rfl
            rw [zm_urt]
            have eK : tkK T n b = 24 := by
              unfold tkK tkKa
              rw [ea, if_pos (by omega)]
            refine hK _ (tkQ_up hq2 (by omega)) ⟨?_, ?_, ?_, fun e => by omega⟩
            · rw [tup_o (by omega), k6, ea]
            · rw [tup_o (by omega), k7]
              unfold tkE tkEa
              rw [ea, if_pos (by omega)]
            · rw [tup_s, eK]
        · rintro _ rfl
          rw [zm_urs, zm_urt, g6]
          have hp : p < n := Classical.byContradiction fun x => by
            have := hc.2.2.2 (by omega)
            omega
          have ec := hc.2.2.1 hp
          refine ih (p + 1) _ (by omega) (by omega) (by omega) ?_ (tkQ_up hq (by omega)) (by rw [tup_o (by omega)]; exact g8) (by rw [tup_s]; omega)
          rw [← g4, zWh_y (p := p) hp (decide_eq_true (Or.inr (by omega)))]
  unfold wX12_next
  rintro _ rfl
  rw [zu_ur1 (m := m) (p := [1]) rfl, h7]
  exact loop f b _ (by omega) hb (by omega) rfl (tkQ_up (fun _ _ _ _ _ => rfl) (by omega)) (by rw [tup_o (by omega)]; exact h8) tup_s
end TKR
