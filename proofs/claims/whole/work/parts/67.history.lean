/-! HISTORY KEPT, both -/
theorem wA_ext {A B : Nat → Int} (h : ∀ j, j < 63 ∨ 204 ≤ j → B j = A j) (hA : wA A) : wA B := by
  have h6 := hA.2.2.1
  refine zAg_A (fun j hj => h j (by omega)) hA (fun j hj => ?_) ?_ ?_
  · rw [h (49 + j) (Or.inl (by omega))]
    exact zA_same hA j hj
  · rw [h 61 (Or.inl (by decide))]
    exact hA.2.2.2.2.1
  · rw [h 62 (Or.inl (by decide))]
    exact hA.2.2.2.2.2.1
theorem wS_ext {A B : Nat → Int} {m : aj_M} {s : List Nat} (h : ∀ j, j < 63 → B j = A j) (h6 : A 6 ≤ 12) (hS : wS m s A) : wS m s B := by
  refine ⟨fun j hj => ?_, ?_, ?_⟩
  · rw [h 6 (by decide)] at hj
    rw [h (49 + j) (by omega)]
    exact hS.1 j hj
  · rw [h 61 (by decide)]
    exact hS.2.1
  · rw [h 62 (by decide)]
    exact hS.2.2
theorem zRow_in {A : Nat → Int} {i j : Nat} (h : 49 ≤ j ∧ j < 63) : zRow A i j = A (64 + 14 * i + (j - 49)) := if_pos h
theorem zRow_out {A : Nat → Int} {i j : Nat} (h : ¬ (49 ≤ j ∧ j < 63)) : zRow A i j = A j := if_neg h
theorem zNt_last {W A A0 : Nat → Int} (h : 0 ≤ A 63 ∧ A 63 ≤ 10) (ag : zAg A0 A) (hW : ∀ k, k < 14 → W k = A0 (49 + k)) {i : Nat} (hi : (i : Int) + 1 = zNt W A 63) {j : Nat} (hj : j < 63 ∨ 204 ≤ j) : zRow (zNt W A) i j = A0 j := by
  by_cases c : 49 ≤ j ∧ j < 63
  · rw [zRow_in c, zNt_row h (by omega) (by omega), if_pos hi, hW _ (by omega)]
    exact congrArg A0 (by omega)
  · rw [zRow_out c, zNt_off h hj]
    exact ag j (by omega)
theorem zNt_old {W A : Nat → Int} (h : 0 ≤ A 63 ∧ A 63 ≤ 10) {i : Nat} (hi : (i : Int) + 1 < zNt W A 63) {j : Nat} (hj : j < 63 ∨ 204 ≤ j) : zRow (zNt W A) i j = zRow A (if A 63 = 10 then i + 1 else i) j := by
  by_cases c : 49 ≤ j ∧ j < 63
  · rw [zRow_in c, zRow_in c, zNt_row h (by omega) (by omega), if_neg (by omega)]
  · rw [zRow_out c, zRow_out c, zNt_off h hj]
theorem zHA_nt {W A A0 : Nat → Int} (h : zHA A) (ag : zAg A0 A) (hA0 : wA A0) (hW : ∀ k, k < 14 → W k = A0 (49 + k)) : zHA (zNt W A) := by
  have e := zNt_63 (W := W) h.1
  have h1 := h.1
  refine ⟨by omega, fun i hi => ?_⟩
  by_cases c : (i : Int) + 1 = zNt W A 63
  · exact wA_ext (fun j hj => zNt_last h.1 ag hW c hj) hA0
  · refine wA_ext (fun j hj => zNt_old h.1 (by omega) hj) (h.2 _ ?_)
    split <;> omega
def zHl : List (List Nat) := [5, 0] :: (List.range 10).flatMap fun k => [[k, 0, 5, 0], [0, k, 0, 5, 0]]
theorem zHl_a {k : Nat} (h : k < 10) : [k, 0, 5, 0] ∈ zHl ∧ [0, k, 0, 5, 0] ∈ zHl := by
  refine ⟨List.mem_cons_of_mem _ (List.mem_flatMap.mpr ⟨k, List.mem_range.mpr h, by simp⟩), List.mem_cons_of_mem _ (List.mem_flatMap.mpr ⟨k, List.mem_range.mpr h, by simp⟩)⟩
theorem pX1_keep {f : Nat} {Φ : aj_M → Prop} {m : aj_M} {W A A0 : Nat → Int} (hA : zHA A) (h6 : A0 6 ≤ 12) (hC : zHC m A) (ag : zAg A0 A) (hW : ∀ k, k < 14 → W k = A0 (49 + k)) (hS : wS m [3, 0] A0) (h : ∀ m', zo zHl m m' → zHC m' (zNt W A) → Φ m') : wX1_keep f Φ [5, 0] [3, 0] m := by
  obtain ⟨nx, n1, n2, n3, n4⟩ := hC
  have hb := hA.1
  unfold wX1_keep
  rw [n2]
  refine ⟨⟨by omega, by omega⟩, ?_⟩
  rw [Int.toNat_natCast]
  refine pX9_copyFrom (by simp) (by simp) (by simp) ?_
  intro m1 z1 w1
  have w1 := w1 A0 h6 hS
  have e5 : m1 [5, 0] = m [5, 0] := z1 _ (by simp)
  rw [e5, n2]
  refine ⟨⟨by omega, by omega⟩, ?_⟩
  rintro m2 rfl
  have e6 : aj_u m1 [5, 0] 1 (((nx : Int) + 1) % 10) [5, 0] 2 = A 63 := by
    rw [zu_tup, tup_o (by decide), e5, n3]
  rw [e6]
  refine ⟨⟨by omega, by omega⟩, ?_⟩
  rintro m3 rfl
  have e63 := zNt_63 (W := W) hb
  have off : ∀ p, p ≠ [5, 0] → aj_u (aj_u m1 [5, 0] 1 (((nx : Int) + 1) % 10)) [5, 0] 2 (min (A 63 + 1) 10) p = m1 p := fun p hp => by rw [zu_off hp, zu_off hp]
  refine h _ (fun p hp => ?_) ⟨(nx + 1) % 10, by omega, ?_, ?_, fun i hi => ?_⟩
  · have hp5 : p ≠ [5, 0] := fun e => hp (by rw [e]; exact List.mem_cons_self)
    rw [off p hp5]
    refine z1 p (fun x => ?_)
    simp only [List.mem_cons, List.not_mem_nil, or_false] at x
    rcases x with x | x
    · exact hp (by rw [x]; exact (zHl_a n1).1)
    · exact hp (by rw [x]; exact (zHl_a n1).2)
  · rw [zu_tup, tup_o (by decide), zu_tup, tup_s]
    omega
  · rw [zu_tup, tup_s, e63]
  · by_cases c : (i : Int) + 1 = zNt W A 63
    · have ei : ((nx + 1) % 10 + 10 - (zNt W A 63).toNat + i) % 10 = nx := by omega
      rw [ei]
      refine wS_off (m := m1) ?_ (off _ (by simp)) (off _ (by simp))
      exact wS_ext (fun j hj => zNt_last hb ag hW c (Or.inl hj)) h6 w1
    · have h6' : A 6 ≤ 12 := by rw [ag 6 (Or.inl (by decide))]; exact h6
      have n4 := n4 (if A 63 = 10 then i + 1 else i) (by split <;> omega)
      have ei : ((nx + 1) % 10 + 10 - (zNt W A 63).toNat + i) % 10 = (nx + 10 - (A 63).toNat + (if A 63 = 10 then i + 1 else i)) % 10 := by
        split <;> omega
      have hne : ((nx + 1) % 10 + 10 - (zNt W A 63).toNat + i) % 10 ≠ nx := by omega
      rw [← ei] at n4
      refine wS_off (m := m) ?_ ((off _ (by simp)).trans (z1 _ (by simp [hne]))) ((off _ (by simp)).trans (z1 _ (by simp [hne])))
      exact wS_ext (fun j hj => zNt_old hb (by omega) (Or.inl hj)) (by rw [zRow_out (by decide)]; exact h6') n4
theorem pX11_wasDone {f : Nat} {Φ : aj_M → Prop} {m : aj_M} {W A A0 : Nat → Int} (hA : zHA A) (h6 : A0 6 ≤ 12) (hC : zHC m A) (ag : zAg A0 A) (hW : ∀ k, k < 14 → W k = A0 (49 + k)) (hS : wS m [3, 0] A0) (h : ∀ m', zo ([0] :: zHl) m m' → (∀ k, k ≠ 12 → m' [0] k = m [0] k) → m' [0] 12 = 1 → zHC m' (zNt W A) → Φ m') : wX11_wasDone f Φ [0] m := by
  refine pX1_keep hA h6 hC ag hW hS ?_
  intro m1 z1 c1
  rintro m2 rfl
  have e0 : m1 [0] = m [0] := z1 _ (by decide)
  refine h _ (fun p hp => ?_) (fun k hk => ?_) ?_ ?_
  · simp only [List.mem_cons, not_or] at hp
    rw [zu_off hp.1]
    exact z1 p (by simpa using hp.2)
  · rw [zu_tup, tup_o hk, e0]
  · rw [zu_tup, tup_s]
  · obtain ⟨nx, n1, n2, n3, n4⟩ := c1
    refine ⟨nx, n1, by rw [zu_off (by decide)]; exact n2, by rw [zu_off (by decide)]; exact n3, fun i hi => ?_⟩
    exact wS_off (n4 i hi) (zu_off (by simp)) (zu_off (by simp))
/-- the reference -/
theorem zm_urs {m : aj_M} {p : List Nat} {R : Nat → Int} : aj_ur m p R p = R := by
  funext k
  simp [aj_ur]
theorem zm_uro {m : aj_M} {p q : List Nat} {R : Nat → Int} (h : q ≠ p) : aj_ur m p R q = m q := by
  funext k
  simp [aj_ur, h]
theorem zm_urt {m : aj_M} {p : List Nat} {R : Nat → Int} {j : Nat} {v : Int} : aj_u (aj_ur m p R) p j v = aj_ur m p (tup R j v) := by
  funext q k
  by_cases hq : q = p <;> by_cases hk : k = j <;> simp [aj_u, aj_ur, tup, hq, hk]
theorem zm_id {m : aj_M} {p : List Nat} : aj_ur m p (m p) = m := by
  funext q k
  by_cases hq : q = p <;> simp [aj_ur, hq]
theorem hX12_sto {f : Nat} {Φ : aj_M → Prop} {m : aj_M} (h : ∀ W : Nat → Int, (∀ k, k < 14 → W k = m [1, 1] (49 + k)) → Φ (aj_ur m [27, 1] W)) : ∀ (k i : Nat) (W : Nat → Int), i ≤ 14 → 14 - i < k → (∀ j, j < i → W j = m [1, 1] (49 + j)) → hX12_stores_2 f Φ k [1] (i : Int) (aj_ur m [27, 1] W) := by
  intro k
  induction k with
  | zero => intro i W h1 h2; omega
  | succ k ih =>
    intro i W h1 h2 h3
    refine ⟨⟨by omega, by omega⟩, fun c => h W (fun j hj => h3 j (by omega)), fun c => ⟨⟨by omega, by omega⟩, ⟨by omega, by omega⟩, ?_⟩⟩
    rintro m1 rfl
    rw [Int.toNat_natCast, zm_urt, zm_uro (by decide), show (49 + (i : Int)).toNat = 49 + i by omega]
    refine ih (i + 1) _ (by omega) (by omega) (fun j hj => ?_)
    by_cases e : j = i
    · subst e
      exact tup_s
    · rw [tup_o e]
      exact h3 j (by omega)
theorem pX12_stores {f : Nat} {Φ : aj_M → Prop} {m : aj_M} (hf : 20 ≤ f) (h : ∀ W : Nat → Int, (∀ k, k < 14 → W k = m [1, 1] (49 + k)) → Φ (aj_ur m [27, 1] W)) : wX12_stores f Φ [1] m := by
  have := hX12_sto (f := f) h f 0 (m [27, 1]) (by omega) (by omega) (fun j hj => by omega)
  rw [zm_id] at this
  exact this
theorem hX12_not57 {f : Nat} {Φ : aj_M → Prop} {m : aj_M} {H : Nat} {R : Nat → Int} (hH : H < 10) (h63 : R 63 = H) (h : Φ (aj_ur m [1, 1] (fun j => if 64 + 14 * H ≤ j ∧ j < 64 + 14 * H + 14 then m [27, 1] (j - (64 + 14 * H)) else if j = 63 then (H : Int) + 1 else R j))) : ∀ (k i : Nat) (X : Nat → Int), i ≤ 14 → 14 - i < k → (∀ j, X j = if 64 + 14 * H ≤ j ∧ j < 64 + 14 * H + i then m [27, 1] (j - (64 + 14 * H)) else R j) → hX12_notes_57 f Φ k [1] (i : Int) (aj_ur m [1, 1] X) := by
  intro k
  induction k with
  | zero => intro i X h1 h2; omega
  | succ k ih =>
    intro i X h1 h2 h3
    have x63 : aj_ur m [1, 1] X [1, 1] (63 : Int).toNat = H := by
      rw [zm_urs]
      show X 63 = _
      rw [h3 63, if_neg (by omega), h63]
    refine ⟨⟨by omega, by omega⟩, fun c => ?_, fun c => ⟨⟨by omega, by omega⟩, ?_⟩⟩
    · rintro m1 rfl
      rw [x63, zm_urt]
      have e : tup X (63 : Int).toNat ((H : Int) + 1) = (fun j => if 64 + 14 * H ≤ j ∧ j < 64 + 14 * H + 14 then m [27, 1] (j - (64 + 14 * H)) else if j = 63 then (H : Int) + 1 else R j) := by
        funext j
        show (if j = 63 then (H : Int) + 1 else X j) = _
        have ei : i = 14 := by omega
        rw [h3 j, ei]
        by_cases c : j = 63
        · rw [if_pos c, if_neg (by omega), if_pos c]
        · rw [if_neg c, if_neg c]
      rw [e]
      exact h
    · rw [x63]
      refine ⟨⟨by omega, by omega⟩, ?_⟩
      rintro m1 rfl
      rw [zm_urt, zm_uro (by decide), Int.toNat_natCast, show (64 + 14 * (H : Int) + i).toNat = 64 + 14 * H + i by omega]
      refine ih (i + 1) _ (by omega) (by omega) (fun j => ?_)
      show (if j = 64 + 14 * H + i then m [27, 1] i else X j) = _
      by_cases c : j = 64 + 14 * H + i
      · rw [if_pos c, if_pos (by omega)]
        exact congrArg (m [27, 1]) (by omega)
      · rw [if_neg c, h3 j]
        by_cases d : 64 + 14 * H ≤ j ∧ j < 64 + 14 * H + i
        · rw [if_pos d, if_pos (by omega)]
        · rw [if_neg d, if_neg (by omega)]
theorem hX12_not14 {f : Nat} {Φ : aj_M → Prop} {m : aj_M} {A : Nat → Int} (h : ∀ X : Nat → Int, (∀ j, X j = if 64 ≤ j ∧ j < 190 then A (j + 14) else if j = 63 then A 63 - 1 else A j) → hX12_notes_57 f Φ f [1] 0 (aj_ur m [1, 1] X)) : ∀ (k i : Nat) (X : Nat → Int), i ≤ 126 → 126 - i < k → (∀ j, X j = if 64 ≤ j ∧ j < 64 + i then A (j + 14) else A j) → hX12_notes_14 f Φ k [1] (i : Int) (aj_ur m [1, 1] X) := by
  intro k
  induction k with
  | zero => intro i X h1 h2; omega
  | succ k ih =>
    intro i X h1 h2 h3
    refine ⟨⟨by omega, by omega⟩, fun c => ?_, fun c => ⟨⟨by omega, by omega⟩, ⟨by omega, by omega⟩, ?_⟩⟩
    · rintro m1 rfl
      rw [zm_urs, zm_urt]
      refine h _ (fun j => ?_)
      have ei : i = 126 := by omega
      show (if j = 63 then X 63 - 1 else X j) = _
      rw [h3 j, h3 63, ei]
      by_cases c : j = 63
      · rw [if_pos c, if_neg (by omega), if_neg (by omega), if_pos c]
      · rw [if_neg c, if_neg c]
    · rintro m1 rfl
      rw [zm_urs, zm_urt, show (64 + (i : Int)).toNat = 64 + i by omega, show (78 + (i : Int)).toNat = 78 + i by omega]
      refine ih (i + 1) _ (by omega) (by omega) (fun j => ?_)
      show (if j = 64 + i then X (78 + i) else X j) = _
      by_cases c : j = 64 + i
      · rw [if_pos c, h3, if_neg (by omega), if_pos (by omega)]
        exact congrArg A (by omega)
      · rw [if_neg c, h3 j]
        by_cases d : 64 ≤ j ∧ j < 64 + i
        · rw [if_pos d, if_pos (by omega)]
        · rw [if_neg d, if_neg (by omega)]
theorem pX12_notes {f : Nat} {Φ : aj_M → Prop} {m : aj_M} {A W : Nat → Int} (hf : 200 ≤ f) (hm : m [1, 1] = A) (hb : 0 ≤ A 63 ∧ A 63 ≤ 10) (hW : m [27, 1] = W) (h : Φ (aj_ur m [1, 1] (zNt W A))) : wX12_notes f Φ [1] m := by
  have e63 : m [1, 1] (63 : Int).toNat = A 63 := by rw [hm]; rfl
  unfold wX12_notes
  rw [e63]
  refine ⟨⟨by omega, by omega⟩, fun c => ?_, fun c => ?_⟩
  · have hH : ((A 63).toNat : Int) = A 63 := by omega
    have := hX12_not57 (f := f) (Φ := Φ) (m := m) (H := (A 63).toNat) (R := A) (by omega) hH.symm ?_ f 0 A (by omega) (by omega) (fun j => by rw [if_neg (by omega)])
    · rw [← hm, zm_id] at this
      exact this
    · rw [zNt, if_neg c] at h
      rw [hW, hH]
      exact h
  · have := hX12_not14 (f := f) (Φ := Φ) (m := m) (A := A) ?_ f 0 A (by omega) (by omega) (fun j => by rw [if_neg (by omega)])
    · rw [← hm, zm_id] at this
      exact this
    · intro X hX
      refine hX12_not57 (f := f) (Φ := Φ) (m := m) (H := 9) (R := X) (by omega) (by rw [hX 63, if_neg (by decide), if_pos rfl, c]; rfl) ?_ f 0 X (by omega) (by omega) (fun j => by rw [if_neg (by omega)])
      rw [zNt, if_pos c] at h
      have e : (fun j => if 64 + 14 * 9 ≤ j ∧ j < 64 + 14 * 9 + 14 then m [27, 1] (j - (64 + 14 * 9)) else if j = 63 then ((9 : Nat) : Int) + 1 else X j) = (fun j => if 64 ≤ j ∧ j < 190 then A (j + 14) else if 190 ≤ j ∧ j < 204 then W (j - 190) else A j) := by
        funext j
        show (if 64 + 14 * 9 ≤ j ∧ j < 64 + 14 * 9 + 14 then m [27, 1] (j - (64 + 14 * 9)) else if j = 63 then ((9 : Nat) : Int) + 1 else X j) = (if 64 ≤ j ∧ j < 190 then A (j + 14) else if 190 ≤ j ∧ j < 204 then W (j - 190) else A j)
        rw [hW, hX j]
        by_cases d : 190 ≤ j ∧ j < 204
        · rw [if_pos (by omega), if_neg (by omega), if_pos d]
        · rw [if_neg (by omega), if_neg d]
          by_cases e : j = 63
          · rw [if_pos e, if_neg (by omega), e, c]
            rfl
          · rw [if_neg e, if_neg e]
      rw [e]
      exact h
