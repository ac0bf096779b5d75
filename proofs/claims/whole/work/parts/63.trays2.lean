/-! TRAYS: write; walk, lifted -/
def tTr (s v : Int) : Int := if s = 0 then aj_w (aj_b v) else if s = 1 then aj_w (aj_sh v) else if s = 2 then aj_w v else v
theorem aj_w_rL {v : Int} : rL (aj_w v) := by
  unfold aj_w
  have h1 := Int32.le_toInt (Int32.ofInt v)
  have h2 := Int32.toInt_lt (Int32.ofInt v)
  exact ⟨by omega, by omega⟩
theorem tTr_rL {s v : Int} (hv : rL v) : rL (tTr s v) := by
  unfold tTr
  split
  · exact aj_w_rL
  · split
    · exact aj_w_rL
    · split
      · exact aj_w_rL
      · exact hv
theorem tup_id {S : Nat → Int} {t : Nat} : tup S t (S t) = S := by
  funext u
  by_cases h : u = t <;> simp [tup, h]
theorem pX10_trimmed {f : Nat} {Φ : Int → aj_M → Prop} {q : List Nat} {m : aj_M} {s v : Int} (hs : m q 1 = s) (hs2 : 0 ≤ s ∧ s ≤ 3) (h : Φ (tTr s v) m) : wX10_trimmed f Φ q v m := by
  unfold wX10_trimmed
  rw [hs]
  refine ⟨⟨by omega, by omega⟩, fun c => ?_, ?_, ?_, ?_⟩
  · rw [tTr, if_neg (by omega), if_neg (by omega), if_neg (by omega)] at h
    exact h
  · intro e
    rw [tTr, if_pos e] at h
    exact h
  · intro e
    rw [tTr, if_neg (by omega), if_pos e] at h
    exact h
  · intro e
    rw [tTr, if_neg (by omega), if_neg (by omega), if_pos e] at h
    exact h
theorem pX12_cutTo {f : Nat} {Φ : Int → aj_M → Prop} {m : aj_M} {s v : Int} (hs2 : 0 ≤ s ∧ s ≤ 3) (h : Φ (tTr s v) m) : wX12_cutTo f Φ v s m := by
  refine ⟨⟨by omega, by omega⟩, fun c => ⟨⟨by omega, by omega⟩, fun d => ⟨⟨by omega, by omega⟩, fun e => ?_, fun e => ?_⟩, fun d => ?_⟩, fun c => ?_⟩
  · rw [tTr, if_neg c, if_neg d, if_neg e] at h
    exact h
  · rw [tTr, if_neg c, if_neg d, if_pos e] at h
    exact h
  · rw [tTr, if_neg c, if_pos d] at h
    exact h
  · rw [tTr, if_pos c] at h
    exact h
theorem tA_0 {N : Nat → Int} {v : Int} (h : tA N v = 0) : ∃ t : Nat, v = t ∧ t < 4 ∧ 0 ≤ N t := by
  unfold tA at h
  split at h
  case isFalse => exact absurd h (by decide)
  case isTrue c =>
    split at h
    case isFalse => exact absurd h (by decide)
    case isTrue d => exact ⟨v.toNat, by omega, by omega, d⟩
theorem tA_r {N : Nat → Int} {v : Int} : rI (tA N v) := by
  unfold tA
  split
  · split <;> decide
  · decide
theorem pX11_write {f : Nat} {Φ : Int → aj_M → Prop} {v i w : Int} {m : aj_M} {S N : Nat → Int} {V : Nat → Nat → Int} (hO : tO S N V) (hC : tC m S N V) (hv : rI v) (hi : rI i) (hbad : tA N v ≠ 0 → Φ (tA N v) m) (h7 : ∀ t : Nat, v = t → t < 4 → 0 ≤ N t → ¬ (0 ≤ i ∧ i < N t) → Φ (-7) m) (hok : ∀ t : Nat, v = t → t < 4 → 0 ≤ N t → ∀ j : Nat, i = j → i < N t → ∀ m', zo [[t, 7, 0], [0, t, 7, 0]] m m' → tC m' S N (tuv V t (tup (V t) j (tTr (S t) w))) → Φ (tTr (S t) w) m') : wX11_write f Φ [0] v i w m := by
  refine pX11_trayCode hO hC hv ⟨tA_r, fun c => ?_, fun c => ⟨tA_r, hbad c⟩⟩
  obtain ⟨t, rfl, ht, hn⟩ := tA_0 c
  have hb := tO_b hO ht
  have hs := (tO_s hO ht hn).1
  have hc := hC t ht
  rw [Int.toNat_natCast]
  refine ⟨⟨by omega, by omega⟩, hi, fun d => h7 t rfl ht hn (by omega), fun d => ⟨hi, by rw [hc.1]; exact ⟨by omega, by omega⟩, fun e => ?_, fun e => h7 t rfl ht hn (by rw [hc.1] at e; omega)⟩⟩
  rw [hc.1] at e
  refine pX10_trimmed (hc.2 hn).1 hs ⟨⟨by omega, by omega⟩, ?_⟩
  rintro m3 rfl
  obtain ⟨j, rfl⟩ : ∃ j : Nat, i = j := ⟨i.toNat, by omega⟩
  rw [Int.toNat_natCast]
  refine ⟨⟨by omega, by omega⟩, ?_⟩
  have e1 : aj_u m [0, t, 7, 0] j (tTr (S t) w) [0, t, 7, 0] j = tTr (S t) w := by simp [aj_u]
  rw [e1]
  have hz : zo [[t, 7, 0], [0, t, 7, 0]] m (aj_u m [0, t, 7, 0] j (tTr (S t) w)) := by
    intro p hp
    simp only [List.mem_cons, List.not_mem_nil, or_false, not_or] at hp
    exact zu_off hp.2
  have := tC_up (t := t) (s := S t) (n := N t) (R := tup (V t) j (tTr (S t) w)) hC hz (by rw [zu_off (by simp)]; exact (hc.2 hn).1) (by rw [zu_off (by simp)]; exact hc.1) (fun k hk => by
    rw [zu_tup]
    by_cases hkj : k = j
    · rw [hkj, tup_s, tup_s]
    · rw [tup_o hkj, tup_o hkj]
      exact (hc.2 hn).2 k hk)
  rw [tup_id, tup_id] at this
  exact hok t rfl ht hn j rfl e _ hz this
theorem pX12_write {f : Nat} {Φ : Int → aj_M → Prop} {v i w : Int} {m : aj_M} {S N : Nat → Int} {V : Nat → Nat → Int} (hO : tO S N V) (hR : tR m S N V) (hv : rI v) (hi : rI i) (hbad : tA N v ≠ 0 → Φ (tA N v) (rZ m)) (h7 : ∀ t : Nat, v = t → t < 4 → 0 ≤ N t → ¬ (0 ≤ i ∧ i < N t) → Φ (-7) (rZ m)) (hok : ∀ t : Nat, v = t → t < 4 → 0 ≤ N t → ∀ j : Nat, i = j → i < N t → ∀ m', zo [[44, 1], [45, 1], [46, 1]] (rZ m) m' → tR m' S N (tuv V t (tup (V t) j (tTr (S t) w))) → Φ (tTr (S t) w) m') : wX12_write f Φ [1] v i w m := by
  rintro m1 rfl
  have hR1 : tR (aj_u m [1] 0 0) S N V := by
    intro t ht
    rw [zu_off (by decide), zu_off (by decide), zu_off (by decide)]
    exact hR t ht
  refine pX12_noTray hO hR1 hv ⟨tA_r, fun c => ?_, fun c => ⟨tA_r, hbad c⟩⟩
  obtain ⟨t, rfl, ht, hn⟩ := tA_0 c
  have hb := tO_b hO ht
  have hs := (tO_s hO ht hn).1
  have hc := (hR1 t ht).2 hn
  rw [Int.toNat_natCast]
  refine ⟨hi, ⟨by omega, by omega⟩, by rw [hc.2.1]; exact ⟨by omega, by omega⟩, ?_⟩
  rw [hc.2.1]
  refine pW12_within (rL_rI hi) (by decide) ⟨by omega, by omega⟩ (fun a b => zc1 ⟨⟨by omega, by omega⟩, ?_⟩) (fun a => zc0 (h7 t rfl ht hn (by omega)))
  rw [hc.1]
  refine pX12_cutTo hs ⟨⟨by omega, by omega⟩, ?_⟩
  rintro m5 rfl
  refine ⟨⟨by omega, by omega⟩, ?_⟩
  obtain ⟨j, rfl⟩ : ∃ j : Nat, i = j := ⟨i.toNat, by omega⟩
  rw [show (40 * (t : Int) + j).toNat = 40 * t + j by omega]
  have e1 : aj_u (aj_u m [1] 0 0) [46, 1] (40 * t + j) (tTr (S t) w) [46, 1] (40 * t + j) = tTr (S t) w := by simp [aj_u]
  rw [e1]
  have := tR_up (m' := aj_u (aj_u m [1] 0 0) [46, 1] (40 * t + j) (tTr (S t) w)) (t := t) (s := S t) (n := N t) (R := tup (V t) j (tTr (S t) w)) hR1 hO ht hn (by rw [zu_off (by decide), ← hc.1, tup_id]) (by rw [zu_off (by decide), ← hc.2.1, tup_id]) (fun k hk => by
    rw [zu_tup]
    by_cases hkj : k = j
    · rw [hkj, tup_s, tup_s]
    · rw [tup_o (by omega), tup_o hkj]
      exact hc.2.2 k hk) (fun k hk => by
    rw [zu_tup]
    rw [tup_o (by omega)])
  rw [tup_id, tup_id] at this
  refine hok t rfl ht hn j rfl (by omega) _ (fun p hp => ?_) this
  simp only [List.mem_cons, List.not_mem_nil, or_false, not_or] at hp
  rw [zu_off hp.2.2]
  rfl
/-- steps of a walk -/
def tBg (A : Nat → Int) (s : Int) : Int := if s % 2 = 0 then A (13 + (s / 2).toNat) else A (25 + (s / 2).toNat)
def tEn (A : Nat → Int) (s : Int) : Int := if s % 2 = 0 then A (25 + (s / 2).toNat) else A (13 + (s / 2).toNat)
def tVo (A : Nat → Int) (s : Int) : Int := if s % 2 = 0 then A (49 + (s / 2).toNat) else gI (A 1) (A 2) (A 3) (A (49 + (s / 2).toNat))
def tQ1 (A U : Nat → Int) (i : Nat) : Bool := decide ((0 ≤ U i ∧ U i < 2 * A 6) ∧ (i = 0 ∨ tEn A (U (i - 1)) = tBg A (U i)))
def tQ (A U : Nat → Int) : Nat → Bool
  | 0 => true
  | i + 1 => tQ A U i && tQ1 A U i
def tGa (A U : Nat → Int) : Nat → Int
  | 0 => 0
  | i + 1 => gT (A 1) (A 2) (A 3) (tGa A U i) (tVo A (U i))
theorem tQ_f {A U : Nat → Int} {i : Nat} : ∀ n, i ≤ n → tQ A U i = false → tQ A U n = false
  | 0, h, e => by
    have : i = 0 := by omega
    rw [this] at e
    exact e
  | n + 1, h, e => by
    by_cases c : i ≤ n
    · rw [tQ, tQ_f n c e]
      rfl
    · have : i = n + 1 := by omega
      rw [← this]
      exact e
theorem tQ_t {A U : Nat → Int} {n i : Nat} (h : tQ A U n = true) (hi : i ≤ n) : tQ A U i = true := by
  cases e : tQ A U i
  · rw [tQ_f n hi e] at h
    exact h
  · rfl
theorem tQ_1 {A U : Nat → Int} {i : Nat} (h : tQ A U (i + 1) = true) : (0 ≤ U i ∧ U i < 2 * A 6) ∧ (i = 0 ∨ tEn A (U (i - 1)) = tBg A (U i)) := by
  rw [tQ, Bool.and_eq_true] at h
  exact of_decide_eq_true h.2
theorem tVo_b {A : Nat → Int} (hA : wA A) {s : Int} (h : 0 ≤ s ∧ s < 2 * A 6) : 0 ≤ tVo A s ∧ tVo A s < A 4 := by
  have h1 := hA.2.2.2.1 (s / 2).toNat (by omega)
  have h2 := g_fact hA.1 (x := A (49 + (s / 2).toNat)) (y := 0) h1.2.2.2.1 h1.2.2.2.2 (by omega) (by have := gOK_n hA.1; omega)
  unfold tVo
  split
  · exact h1.2.2.2
  · grind
theorem tGa_b {A U : Nat → Int} (hA : wA A) : ∀ i, tQ A U i = true → 0 ≤ tGa A U i ∧ tGa A U i < A 4
  | 0, _ => by
    have := gOK_n hA.1
    exact ⟨Int.le_refl 0, by show (0 : Int) < A 4; omega⟩
  | i + 1, h => by
    have h1 := tGa_b (U := U) hA i (tQ_t h (by omega))
    have h2 := tVo_b hA (tQ_1 h).1
    have := g_fact hA.1 h1.1 h1.2 h2.1 h2.2
    exact ⟨this.1, this.2.1⟩
theorem tE_b {A : Nat → Int} (hA : wA A) {s : Int} (h : 0 ≤ s ∧ s < 2 * A 6) : (0 ≤ tEn A s ∧ tEn A s < 5) ∧ 0 ≤ tBg A s ∧ tBg A s < 5 := by
  have h1 := hA.2.2.2.1 (s / 2).toNat (by omega)
  have h5 := hA.2.1
  unfold tEn tBg
  split <;> omega
def tWk (A : Nat → Int) (n : Int) (U : Nat → Int) : Int := if 1 ≤ n ∧ n ≤ 12 then (if tQ A U n.toNat then tGa A U n.toNat else -3) else -4
def tLf (A : Nat → Int) (n : Int) (U : Nat → Int) : Int := if tWk A n U < 0 then tWk A n U else if tBg A (U 0) = tEn A (U (n.toNat - 1)) then n * gO (A 1) (A 2) (A 3) (tWk A n U) else -1
