/-! UNDO; THE REFERENCE'S DEEDS -/
def zUn (A : Nat → Int) (n : Int) : Nat → Int := tup (zRow A (A 63 - n).toNat) 63 (A 63 - n)
theorem zUn_row {A : Nat → Int} {n : Int} {i j : Nat} (h : j ≠ 63) : zRow (zUn A n) i j = zRow A i j := by
  by_cases c : 49 ≤ j ∧ j < 63
  · rw [zRow_in c, zRow_in c, zUn, tup_o (by omega), zRow_out (by omega)]
  · rw [zRow_out c, zRow_out c, zUn, tup_o h, zRow_out c]
theorem zUn_A {A : Nat → Int} {n : Int} (hH : zHA A) (h1 : 1 ≤ n) (h2 : n ≤ A 63) : wA (zUn A n) ∧ zHA (zUn A n) ∧ zAg A (zUn A n) := by
  have hb := hH.1
  refine ⟨wA_ext (fun j hj => ?_) (hH.2 (A 63 - n).toNat (by omega)), ⟨?_, fun i hi => ?_⟩, fun j hj => ?_⟩
  · rw [zUn, tup_o (by omega)]
  · rw [zUn, tup_s]
    omega
  · rw [zUn, tup_s] at hi
    exact wA_ext (fun j hj => zUn_row (by omega)) (hH.2 i (by omega))
  · rw [zUn, tup_o (by omega), zRow_out (by omega)]
theorem pX11_undo {f : Nat} {Φ : Int → aj_M → Prop} {m : aj_M} {A : Nat → Int} {n : Int} (hA : wA A) (hH : zHA A) (hC : zHC m A) (hn : rI n) (h1 : ¬ (1 ≤ n ∧ n ≤ A 63) → Φ (-3) m) (h0 : 1 ≤ n → n ≤ A 63 → ∀ m', zCd m m' (zUn A n) → Φ (A 63 - n) m') : wX11_undo f Φ [0] n m := by
  have hb := hH.1
  have h6 := hA.2.2.1
  obtain ⟨nx, n1, n2, n3, n4⟩ := hC
  unfold wX11_undo
  rw [n3]
  refine ⟨hn, fun c => h1 (by omega), fun c => ⟨hn, fun d => h1 (by omega), fun d => ⟨hn, ⟨by omega, by omega⟩, fun e => ?_, fun e => h1 (by omega)⟩⟩⟩
  unfold wX1_takeBack
  rw [n3, n2]
  refine ⟨hn, fun x => by omega, fun _ => ⟨hn, ⟨by omega, by omega⟩, fun _ => ⟨⟨by omega, by omega⟩, ?_⟩, fun x => absurd e x⟩⟩
  rintro m1 rfl m2 rfl
  have e1 : aj_u m [5, 0] 1 (((nx : Int) + 10 - n) % 10) [5, 0] 2 = A 63 := by rw [zu_tup, tup_o (by decide), n3]
  rw [e1]
  have e2 : aj_u (aj_u m [5, 0] 1 (((nx : Int) + 10 - n) % 10)) [5, 0] 2 (A 63 - n) [5, 0] 1 = ((nx : Int) + 10 - n) % 10 := by rw [zu_tup, tup_o (by decide), zu_tup, tup_s]
  rw [e2]
  refine ⟨⟨by omega, by omega⟩, ?_⟩
  obtain ⟨ny, hy⟩ : ∃ ny : Nat, ny = (((nx : Int) + 10 - n) % 10).toNat := ⟨_, rfl⟩
  rw [← hy]
  have off : ∀ p, p ≠ [5, 0] → aj_u (aj_u m [5, 0] 1 (((nx : Int) + 10 - n) % 10)) [5, 0] 2 (A 63 - n) p = m p := fun p hp => by rw [zu_off hp, zu_off hp]
  have hk : (nx + 10 - (A 63).toNat + (A 63 - n).toNat) % 10 = ny := by omega
  have s0 := n4 (A 63 - n).toNat (by omega)
  rw [hk] at s0
  have s1 : wS (aj_u (aj_u m [5, 0] 1 (((nx : Int) + 10 - n) % 10)) [5, 0] 2 (A 63 - n)) [ny, 0, 5, 0] (zRow A (A 63 - n).toNat) := wS_off s0 (off _ (by simp)) (off _ (by simp))
  refine pX9_copyFrom (by simp) (by simp) (by simp) ?_
  intro m3 z3 w3
  have w3 := w3 _ (by rw [zRow_out (by decide)]; exact h6.2) s1
  rintro m4 rfl
  have e3 : m3 [5, 0] = aj_u (aj_u m [5, 0] 1 (((nx : Int) + 10 - n) % 10)) [5, 0] 2 (A 63 - n) [5, 0] := z3 _ (by decide)
  have e4 : aj_u m3 [0] 12 1 [5, 0] 2 = A 63 - n := by rw [zu_off (by decide), e3, zu_tup, tup_s]
  rw [e4]
  have h63 : zUn A n 63 = A 63 - n := tup_s
  refine h0 (by omega) e _ ⟨fun p hp => ?_, fun k hk => ?_, by rw [zu_tup, tup_s], ?_, ny, by omega, ?_, ?_, fun i hi => ?_⟩
  · have q0 : p ≠ [0] := fun x => hp (by rw [x]; decide)
    have q5 : p ≠ [5, 0] := fun x => hp (by rw [x]; decide)
    have q2 : p ∉ [[2, 0], [0, 2, 0]] := fun x => by
      simp only [List.mem_cons, List.not_mem_nil, or_false] at x
      rcases x with x | x <;> exact hp (by rw [x]; decide)
    rw [zu_off q0, z3 p q2, off p q5]
  · rw [zu_tup, tup_o hk, z3 [0] (by decide), off _ (by decide)]
  · refine wS_ext (fun j hj => ?_) (by rw [zRow_out (by decide)]; exact h6.2) (wS_off w3 (zu_off (by decide)) (zu_off (by decide)))
    rw [zUn, tup_o (by omega)]
  · rw [zu_off (by decide), e3, zu_tup, tup_o (by decide), zu_tup, tup_s]
    omega
  · rw [e4, h63]
  · rw [h63] at hi ⊢
    have s := n4 i (by omega)
    have ei : (nx + 10 - (A 63).toNat + i) % 10 = (ny + 10 - (A 63 - n).toNat + i) % 10 := by omega
    rw [ei] at s
    refine wS_ext (A := zRow A i) (fun j hj => zUn_row (by omega)) (by rw [zRow_out (by decide)]; exact h6.2) (wS_off s ?_ ?_)
    · rw [zu_off (by simp), z3 _ (by simp), off _ (by simp)]
    · rw [zu_off (by simp), z3 _ (by simp), off _ (by simp)]
/-- the reference: what a deed leaves -/
def rDd (m m' : aj_M) (A' : Nat → Int) : Prop := zo [[1], [27, 1], [1, 1]] m m' ∧ (∀ k, k ≠ 0 → k ≠ 28 → k ≠ 29 → m' [1] k = m [1] k) ∧ m' [1, 1] = A'
theorem rDd_rZ {m : aj_M} {A : Nat → Int} (hm : m [1, 1] = A) : rDd m (rZ m) A := by
  refine ⟨fun p hp => ?_, fun k hk _ _ => ?_, ?_⟩
  · simp only [List.mem_cons, List.not_mem_nil, or_false, not_or] at hp
    exact zu_off hp.1
  · show aj_u m [1] 0 0 [1] k = _
    rw [zu_tup, tup_o hk]
  · rw [← hm]
    exact zu_off (by decide)
theorem rDd_27 {m m' : aj_M} {A W : Nat → Int} (h : rDd m m' A) : rDd m (aj_ur m' [27, 1] W) A := by
  refine ⟨fun p hp => ?_, fun k h1 h2 h3 => ?_, ?_⟩
  · rw [← h.1 p hp]
    simp only [List.mem_cons, List.not_mem_nil, or_false, not_or] at hp
    exact zm_uro hp.2.1
  · rw [zm_uro (by decide)]
    exact h.2.1 k h1 h2 h3
  · rw [zm_uro (by decide)]
    exact h.2.2
theorem rDd_11 {m m' : aj_M} {A B : Nat → Int} (h : rDd m m' A) : rDd m (aj_ur m' [1, 1] B) B := by
  refine ⟨fun p hp => ?_, fun k h1 h2 h3 => ?_, zm_urs⟩
  · rw [← h.1 p hp]
    simp only [List.mem_cons, List.not_mem_nil, or_false, not_or] at hp
    exact zm_uro hp.2.2
  · rw [zm_uro (by decide)]
    exact h.2.1 k h1 h2 h3
theorem rDd_s {m m' : aj_M} {A : Nat → Int} {j : Nat} {v : Int} (hj : j = 28 ∨ j = 29) (h : rDd m m' A) : rDd m (aj_u m' [1] j v) A := by
  refine ⟨fun p hp => ?_, fun k h1 h2 h3 => ?_, ?_⟩
  · rw [← h.1 p hp]
    simp only [List.mem_cons, List.not_mem_nil, or_false, not_or] at hp
    exact zu_off hp.1
  · rw [zu_tup, tup_o (by omega)]
    exact h.2.1 k h1 h2 h3
  · rw [zu_off (by decide)]
    exact h.2.2
theorem pNotes {f : Nat} {Φ : aj_M → Prop} {m m' : aj_M} {A B : Nat → Int} (hf : 200 ≤ f) (hH : zHA A) (sg : zSg A B) (hd : rDd m m' B) (hW : ∀ k, k < 14 → m' [27, 1] k = A (49 + k)) (h : ∀ m'', rDd m m'' (zNoA A B) → m'' [27, 1] = m' [27, 1] → Φ m'') : wX12_notes f Φ [1] m' := by
  have hb := (zSg_HA sg hH).1
  refine pX12_notes hf hd.2.2 hb rfl (h _ ?_ (zm_uro (by decide)))
  rw [zNt_W hb hW]
  exact rDd_11 hd
theorem pX12_turn {f : Nat} {Φ : Int → aj_M → Prop} {m : aj_M} {A : Nat → Int} {a g : Int} (hf : 200 ≤ f) (hA : wA A) (hH : zHA A) (hm : m [1, 1] = A) (ha : rI a) (hg : rI g) (h1 : zWht A a g ≠ 0 → Φ (-10 - zWht A a g) (rZ m)) (h0 : zWht A a g = 0 → ∀ m', rDd m m' (zNoA A (tup A (49 + a.toNat) g)) → Φ (A (49 + a.toNat)) m') : wX12_turn f Φ [1] a g m := by
  have h6 := hA.2.2.1
  rintro m1 rfl
  have d1 := rDd_rZ hm
  have e1 : aj_u m [1] 0 0 [1, 1] = A := d1.2.2
  refine ⟨ha, hg, pX12_whyTurn (by omega) hA (fun j _ => congrFun e1 j) (rL_rI ha) (rL_rI hg) ⟨zWht_r, fun c => ?_, fun c => h1 c⟩⟩
  obtain ⟨c1, -, -⟩ := zWht_0 c
  refine pX12_stores (by omega) (fun W hW => ⟨⟨by omega, by omega⟩, ?_⟩)
  rintro m4 rfl
  have d2 : rDd m (aj_ur (aj_u m [1] 0 0) [27, 1] W) A := rDd_27 d1
  rw [zu_ur1 d2.2.2, show (49 + a).toNat = 49 + a.toNat by omega]
  refine pNotes hf hH (B := tup A (49 + a.toNat) g) (zSg_tup (by omega)) (rDd_11 d2) (fun k hk => ?_) ?_
  · rw [zm_uro (by decide), zm_urs, hW k hk, e1]
  · intro m5 d5 e5
    refine ⟨⟨by omega, by omega⟩, ?_⟩
    have : m5 [27, 1] a.toNat = A (49 + a.toNat) := by
      rw [e5, zm_uro (by decide), zm_urs, hW _ (by omega), e1]
    rw [this]
    exact h0 c m5 d5
theorem pX12_cut {f : Nat} {Φ : Int → aj_M → Prop} {m : aj_M} {A : Nat → Int} {a : Int} (hf : 200 ≤ f) (hA : wA A) (hH : zHA A) (hm : m [1, 1] = A) (ha : rI a) (h1 : ¬ (0 ≤ a ∧ a < A 6) → Φ (-11) (rZ m)) (h0 : 0 ≤ a → a < A 6 → ∀ m', rDd m m' (zNoA A (tup A 61 (aj_xor (A 61) (aj_shl 1 a)))) → Φ (if (aj_xor (A 61) (aj_shl 1 a)).toNat.testBit a.toNat then 1 else 0) m') : wX12_cut f Φ [1] a m := by
  have h6 := hA.2.2.1
  rintro m1 rfl
  have d1 := rDd_rZ hm
  have e1 : aj_u m [1] 0 0 [1, 1] = A := d1.2.2
  refine ⟨ha, pX12_isArc (rL_rI ha) (congrFun e1 6) h6 (fun c1 c2 => zc1 ?_) (fun c => zc0 (h1 c))⟩
  refine pX12_stores (by omega) (fun W hW => ?_)
  rintro m4 rfl
  have d2 : rDd m (aj_ur (aj_u m [1] 0 0) [27, 1] W) A := rDd_27 d1
  rw [show (61 : Int).toNat = 61 from rfl, d2.2.2, zu_ur1 d2.2.2]
  refine pNotes hf hH (B := tup A 61 (aj_xor (A 61) (aj_shl 1 a))) (zSg_tup (by decide)) (rDd_11 d2) (fun k hk => ?_) ?_
  · rw [zm_uro (by decide), zm_urs, hW k hk, e1]
  · intro m5 d5 e5
    have h0 := h0 c1 c2 m5 d5
    obtain ⟨C, hC1, hC2⟩ := (zA_cut hA ⟨c1, c2⟩).1.2.2.2.2.1
    rw [tup_s] at hC1
    obtain ⟨n, rfl⟩ : ∃ n : Nat, a = n := ⟨a.toNat, by omega⟩
    have hb := (zSg_HA (zSg_tup (A := A) (j := 61) (v := aj_xor (A 61) (aj_shl 1 n)) (by decide)) hH).1
    have e61 : m5 [1, 1] 61 = C := by
      rw [d5.2.2, zNoA, zNt_off hb (Or.inl (by decide)), tup_s, hC1]
    rw [hC1, Int.toNat_natCast, Int.toNat_natCast] at h0
    rw [e61]
    refine ⟨⟨by omega, by omega⟩, pX12_isIn (Nat.lt_trans hC2 (by decide)) (by omega) (fun e => zb1 ?_) (fun e => zb0 ?_)⟩
    · rw [e] at h0
      exact h0
    · rw [e] at h0
      exact h0
theorem pX12_twist {f : Nat} {Φ : Int → aj_M → Prop} {m : aj_M} {A : Nat → Int} {t : Int} (hf : 200 ≤ f) (hA : wA A) (hH : zHA A) (hm : m [1, 1] = A) (ht : rI t) (h1 : ¬ (0 ≤ t ∧ t ≤ 9) → Φ (-11) (rZ m)) (h0 : 0 ≤ t ∧ t ≤ 9 → ∀ m', rDd m m' (zNoA A (tup A 62 t)) → Φ (A 62) m') : wX12_twist f Φ [1] t m := by
  rintro m1 rfl
  have d1 := rDd_rZ hm
  have e1 : aj_u m [1] 0 0 [1, 1] = A := d1.2.2
  refine ⟨ht, pW12_within (rL_rI ht) (by decide) (by decide) (fun c1 c2 => zc1 ?_) (fun c => zc0 (h1 c))⟩
  refine pX12_stores (by omega) (fun W hW => ?_)
  rintro m4 rfl
  have d2 : rDd m (aj_ur (aj_u m [1] 0 0) [27, 1] W) A := rDd_27 d1
  rw [show (62 : Int).toNat = 62 from rfl, zu_ur1 d2.2.2]
  refine pNotes hf hH (B := tup A 62 t) (zSg_tup (by decide)) (rDd_11 d2) (fun k hk => ?_) ?_
  · rw [zm_uro (by decide), zm_urs, hW k hk, e1]
  · intro m5 d5 e5
    have : m5 [27, 1] (13 : Int).toNat = A 62 := by
      rw [e5, zm_uro (by decide), zm_urs]
      show W 13 = _
      rw [hW _ (by decide), e1]
    rw [this]
    exact h0 ⟨c1, c2⟩ m5 d5
theorem hX12_und {f : Nat} {Φ : Int → aj_M → Prop} {m : aj_M} {R : Nat → Int} {H : Nat} (hH : H < 10) (h63 : R 63 = H) (h : Φ H (aj_ur m [1, 1] (zRow R H))) : ∀ (k i : Nat) (X : Nat → Int), i ≤ 14 → 14 - i < k → (∀ j, X j = if 49 ≤ j ∧ j < 49 + i then R (64 + 14 * H + (j - 49)) else R j) → hX12_undo_44 f Φ k [1] (i : Int) (aj_ur m [1, 1] X) := by
  intro k
  induction k with
  | zero => intro i X h1 h2; omega
  | succ k ih =>
    intro i X h1 h2 h3
    have x63 : aj_ur m [1, 1] X [1, 1] (63 : Int).toNat = H := by
      rw [zm_urs]
      show X 63 = _
      rw [h3 63, if_neg (by omega), h63]
    refine ⟨⟨by omega, by omega⟩, fun c => ?_, fun c => ?_⟩
    · rw [x63]
      have e : X = zRow R H := by
        funext j
        rw [h3 j]
        unfold zRow
        have ei : i = 14 := by omega
        rw [ei]
      rw [e]
      exact h
    · rw [x63]
      refine ⟨⟨by omega, by omega⟩, ⟨by omega, by omega⟩, ?_⟩
      rintro m1 rfl
      rw [zm_urs, zm_urt, show (49 + (i : Int)).toNat = 49 + i by omega, show (64 + 14 * (H : Int) + i).toNat = 64 + 14 * H + i by omega]
      refine ih (i + 1) _ (by omega) (by omega) (fun j => ?_)
      show (if j = 49 + i then X (64 + 14 * H + i) else X j) = _
      by_cases c : j = 49 + i
      · rw [if_pos c, h3, if_neg (by omega), if_pos (by omega)]
        exact congrArg R (by omega)
      · rw [if_neg c, h3 j]
        by_cases d : 49 ≤ j ∧ j < 49 + i
        · rw [if_pos d, if_pos (by omega)]
        · rw [if_neg d, if_neg (by omega)]
theorem pX12_undo {f : Nat} {Φ : Int → aj_M → Prop} {m : aj_M} {A : Nat → Int} {n : Int} (hf : 200 ≤ f) (hH : zHA A) (hm : m [1, 1] = A) (hn : rI n) (h1 : ¬ (1 ≤ n ∧ n ≤ A 63) → Φ (-3) (rZ m)) (h0 : 1 ≤ n → n ≤ A 63 → ∀ m', rDd m m' (zUn A n) → Φ (A 63 - n) m') : wX12_undo f Φ [1] n m := by
  have hb := hH.1
  rintro m1 rfl
  have d1 := rDd_rZ hm
  have e1 : aj_u m [1] 0 0 [1, 1] = A := d1.2.2
  have e63 : aj_u m [1] 0 0 [1, 1] (63 : Int).toNat = A 63 := congrFun e1 63
  refine ⟨hn, pW12_within (rL_rI hn) (by decide) (by decide) (fun c1 c2 => zb1 ?_) (fun c => zb0 (h1 (by omega)))⟩
  rw [e63]
  refine ⟨hn, ⟨by omega, by omega⟩, fun c => ?_, fun c => h1 (by omega)⟩
  rintro m3 rfl
  rw [zu_ur1 e1]
  have hx : ((A 63 - n).toNat : Int) = A 63 - n := by omega
  have := hX12_und (f := f) (Φ := Φ) (m := aj_u m [1] 0 0) (R := tup A 63 (A 63 - n)) (H := (A 63 - n).toNat) (by omega) (by rw [tup_s, hx]) ?_ f 0 (tup A 63 (A 63 - n)) (by omega) (by omega) (fun j => by rw [if_neg (by omega)])
  · exact this
  · rw [hx]
    have e : zRow (tup A 63 (A 63 - n)) (A 63 - n).toNat = zUn A n := by
      funext j
      unfold zUn
      by_cases c : j = 63
      · rw [c, tup_s, zRow_out (by decide), tup_s]
      · rw [tup_o c]
        by_cases d : 49 ≤ j ∧ j < 63
        · rw [zRow_in d, zRow_in d, tup_o (by omega)]
        · rw [zRow_out d, zRow_out d, tup_o c]
    rw [e]
    exact h0 c1 c _ (rDd_11 d1)
