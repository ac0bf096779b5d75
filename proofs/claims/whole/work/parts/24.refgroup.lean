/-! THE REFERENCE'S GROUP -/
theorem pX12_restOf {f : Nat} {Φ : Int → aj_M → Prop} {v b : Int} {m : aj_M} (hv : rI v) (hb : rI b) (hb0 : 0 < b) (h : Φ (v % b) m) : wX12_restOf f Φ v b m := by
  have e : v.tmod b = v % b - ((if 0 ≤ v ∨ b ∣ v then 0 else b.natAbs : Nat) : Int) := Int.tmod_eq_emod
  have h1 := Int.emod_nonneg v (show b ≠ 0 by omega)
  have h2 := Int.emod_lt_of_pos v hb0
  have h3 : (b.natAbs : Int) = b := by omega
  unfold wX12_restOf
  by_cases c : 0 ≤ v ∨ b ∣ v
  · rw [if_pos c] at e
    have e' : v.tmod b = v % b := by omega
    rw [e']
    exact ⟨hv, hb, by omega, ⟨by omega, by omega⟩, fun _ => h, fun c => by omega⟩
  · rw [if_neg c] at e
    refine ⟨hv, hb, by omega, ⟨by omega, by omega⟩, fun c => by omega, fun c => ?_⟩
    rwa [show v.tmod b + b = v % b by omega]
theorem pX12_timesUnits {f : Nat} {Φ : Int → aj_M → Prop} {x y : Int} {m : aj_M} (hx : 0 ≤ x) (hx2 : x < 8) (hy : 0 ≤ y) (hy2 : y < 8) (h : Φ (gQ x y) m) : wX12_timesUnits f Φ x y m := by
  have key : ∀ (vs : Int), (vs = if x % 4 = 0 then y % 4 else if y % 4 = 0 then x % 4 else if x % 4 = y % 4 then 0 else 6 - x % 4 - y % 4) → hX12_timesUnits_48 f Φ (x % 4) (y % 4) (x / 4 + y / 4) vs m := by
    intro vs hvs
    unfold hX12_timesUnits_48
    unfold gQ at h
    rw [← hvs] at h
    refine ⟨⟨by omega, by omega⟩, fun c => ⟨⟨by omega, by omega⟩, ?_⟩, fun c => ⟨⟨by omega, by omega⟩, fun c2 => ⟨⟨by omega, by omega⟩, ?_⟩, fun c2 => ?_⟩⟩
    · rwa [if_neg (by omega)] at h
    · rwa [if_neg (by omega)] at h
    · refine pX12_restOf ⟨by omega, by omega⟩ (by decide) (by decide) ⟨⟨by omega, by omega⟩, fun c3 => ⟨⟨by omega, by omega⟩, ?_⟩, fun c3 => ⟨⟨by omega, by omega⟩, ?_⟩⟩
      · rwa [if_neg (by omega)] at h
      · rwa [if_pos ⟨by omega, by omega, c3⟩] at h
  unfold wX12_timesUnits
  refine ⟨⟨by omega, by omega⟩, ⟨by omega, by omega⟩, ⟨by omega, by omega⟩, ⟨by omega, by omega⟩, ⟨by omega, by omega⟩, fun c => ⟨⟨by omega, by omega⟩, fun c2 => ⟨⟨by omega, by omega⟩, ⟨by omega, by omega⟩, fun c3 => key _ ?_, fun c3 => key _ ?_⟩, fun c2 => key _ ?_⟩, fun c => key _ ?_⟩
  · rw [if_neg c, if_neg c2, if_neg c3]
  · rw [if_neg c, if_neg c2, if_pos c3]
  · rw [if_neg c, if_pos c2]
  · rw [if_pos c]
theorem pX12_times {f : Nat} {Φ : Int → aj_M → Prop} {w : Nat} {p : List Nat} {x y k a b n : Int} {m : aj_M} (hw : 4 ≤ w) (hk : m p 1 = k) (ha : m p 2 = a) (hb : m p 3 = b) (hg : gOK k a b n) (hx : 0 ≤ x) (hx2 : x < n) (hy : 0 ≤ y) (hy2 : y < n) (h : Φ (gT k a b x y) m) : wX12_times f Φ w p x y m := by
  have h12 := gOK_n hg
  unfold wX12_times
  simp only [Int.reduceToNat]
  rw [hk, ha, hb]
  have key2 : ∀ (hk2 : k = 2), (1 ≤ a ∧ a ≤ 6 ∧ n = 2 * a) → rI x ∧ rI a ∧ (a ≤ x → (0 ≤ y ∧ y < 2147483648) ∧ (0 < a ∧ a < 2147483648) ∧ wX12_restOf f (fun z1 m1 => rI y ∧ rI a ∧ (a ≤ y → Φ (z1 + 0) m1) ∧ (¬ (a ≤ y) → Φ (z1 + a) m1)) ((x - a) - (y % a)) a m) ∧ (¬ (a ≤ x) → (0 ≤ y ∧ y < 2147483648) ∧ (0 < a ∧ a < 2147483648) ∧ wX12_restOf f (fun z2 m2 => rI y ∧ rI a ∧ (a ≤ y → Φ (z2 + a) m2) ∧ (¬ (a ≤ y) → Φ (z2 + 0) m2)) (x + (y % a)) a m) := by
    rintro rfl ⟨a1, a2, a3⟩
    have d := zd_div hy a1
    have e0 : gT 2 a b x y = if x < a then (x + y % a) % a + (if y < a then 0 else a) else (x - a - y % a) % a + (if y < a then a else 0) := by simp [gT]
    rw [e0] at h
    refine ⟨⟨by omega, by omega⟩, ⟨by omega, by omega⟩, fun c => ⟨⟨by omega, by omega⟩, ⟨by omega, by omega⟩, pX12_restOf ⟨by omega, by omega⟩ ⟨by omega, by omega⟩ (by omega) ⟨⟨by omega, by omega⟩, ⟨by omega, by omega⟩, fun c2 => ?_, fun c2 => ?_⟩⟩, fun c => ⟨⟨by omega, by omega⟩, ⟨by omega, by omega⟩, pX12_restOf ⟨by omega, by omega⟩ ⟨by omega, by omega⟩ (by omega) ⟨⟨by omega, by omega⟩, ⟨by omega, by omega⟩, fun c2 => ?_, fun c2 => ?_⟩⟩⟩
    · rwa [if_neg (show ¬ x < a by omega), if_neg (show ¬ y < a by omega)] at h
    · rwa [if_neg (show ¬ x < a by omega), if_pos (show y < a by omega)] at h
    · rwa [if_pos (show x < a by omega), if_neg (show ¬ y < a by omega)] at h
    · rwa [if_pos (show x < a by omega), if_pos (show y < a by omega)] at h
  rcases hg with ⟨rfl, a1, a2, rfl⟩ | ⟨rfl, a1, a2, rfl⟩ | ⟨rfl, a1, a2, a3, rfl⟩ | ⟨rfl, rfl⟩
  · refine ⟨⟨by omega, by omega⟩, ⟨by omega, by omega⟩, ⟨by omega, by omega⟩, by decide, fun c => by omega, fun _ => ⟨⟨by omega, by omega⟩, ⟨by omega, by omega⟩, ?_⟩, fun c => by omega, fun c => by omega, fun c => by omega⟩
    simpa [gT] using h
  · exact ⟨⟨by omega, by omega⟩, ⟨by omega, by omega⟩, ⟨by omega, by omega⟩, by decide, fun c => by omega, fun c => by omega, fun _ => key2 rfl ⟨a1, a2, rfl⟩, fun c => by omega, fun c => by omega⟩
  · have d1 := zd_div hx a2
    have d2 := zd_div hy a2
    have ha2 : a * 1 ≤ a * b := Int.mul_le_mul_of_nonneg_left a2 (by omega)
    have hb2 : 1 * b ≤ a * b := Int.mul_le_mul_of_nonneg_right a1 (by omega)
    refine ⟨⟨by omega, by omega⟩, ⟨by omega, by omega⟩, ⟨by omega, by omega⟩, by decide, fun c => by omega, fun c => by omega, fun c => by omega, fun _ => ⟨⟨by omega, by omega⟩, ⟨by omega, by omega⟩, ⟨by omega, by omega⟩, ⟨by omega, by omega⟩, ⟨by omega, by omega⟩, ⟨by omega, by omega⟩, ⟨by omega, by omega⟩, ⟨by omega, by omega⟩, ⟨by omega, by omega⟩, ⟨by omega, by omega⟩, ?_⟩, fun c => by omega⟩
    have e0 : gT 3 a b x y = (x / b + y / b) % a * b + (x + y % b) % b := by simp [gT]
    rwa [e0] at h
  · refine ⟨⟨by omega, by omega⟩, ⟨by omega, by omega⟩, ⟨by omega, by omega⟩, by decide, fun c => by omega, fun c => by omega, fun c => by omega, fun c => by omega, fun _ => pX12_timesUnits hx hx2 hy hy2 ?_⟩
    have e0 : gT 4 a b x y = gQ x y := by simp [gT]
    rwa [e0] at h
theorem hX12_orders {f : Nat} {Φ : Int → aj_M → Prop} {w : Nat} {p : List Nat} {x k a b n z : Int} {m : aj_M} (hw : 4 ≤ w) (hk : m p 1 = k) (ha : m p 2 = a) (hb : m p 3 = b) (hg : gOK k a b n) (hx : 0 ≤ x) (hx2 : x < n) (h : Φ z m) : ∀ (fu j : Nat) (y c : Int), fu ≤ j → gOf k a b x fu y c = some z → 0 ≤ y → y < n → hX12_ordersOf_4 f Φ j w p x y c m := by
  have h12 := gOK_n hg
  intro fu
  induction fu with
  | zero => intro j y c _ e; simp [gOf] at e
  | succ fu ih =>
    intro j y c hj e hy hy2
    obtain ⟨j, rfl⟩ : ∃ j', j = j' + 1 := ⟨j - 1, by omega⟩
    unfold gOf at e
    unfold hX12_ordersOf_4
    refine ⟨⟨by omega, by omega⟩, fun c => ?_, fun c => ?_⟩
    · rw [if_pos c] at e
      cases e
      exact h
    · rw [if_neg c] at e
      refine pX12_times hw hk ha hb hg hy hy2 hx hx2 ?_
      have hf := g_fact hg hy hy2 hx hx2
      exact ih j _ _ (by omega) e hf.1 hf.2.1
theorem pX12_ordersOf {f : Nat} {Φ : Int → aj_M → Prop} {w : Nat} {p : List Nat} {x k a b n : Int} {m : aj_M} (hf : 20 ≤ f) (hw : 4 ≤ w) (hk : m p 1 = k) (ha : m p 2 = a) (hb : m p 3 = b) (hg : gOK k a b n) (hx : 0 ≤ x) (hx2 : x < n) (h : Φ (gO k a b x) m) : wX12_ordersOf f Φ w p x m :=
  hX12_orders hw hk ha hb hg hx hx2 h 13 f x 1 (by omega) (g_fact hg hx hx2 hx hx2).2.2.2.2.1 hx hx2
theorem hX12_invs {f : Nat} {Φ : Int → aj_M → Prop} {q : List Nat} {x k a b n z : Int} {m : aj_M} (hk : m (1 :: q) 1 = k) (ha : m (1 :: q) 2 = a) (hb : m (1 :: q) 3 = b) (hg : gOK k a b n) (hx : 0 ≤ x) (hx2 : x < n) (hz : z < n) (h : Φ z m) : ∀ (fu j : Nat) (y : Int), fu ≤ j → gIf k a b x fu y = some z → 0 ≤ y → hX12_inverseOf_2 f Φ j q x y m := by
  have h12 := gOK_n hg
  have mono : ∀ (fu : Nat) (y : Int), gIf k a b x fu y = some z → y ≤ z := by
    intro fu
    induction fu with
    | zero => intro y e; simp [gIf] at e
    | succ fu ih =>
      intro y e
      unfold gIf at e
      split at e
      · cases e; omega
      · have := ih _ e; omega
  intro fu
  induction fu with
  | zero => intro j y _ e; simp [gIf] at e
  | succ fu ih =>
    intro j y hj e hy
    have hy2 := mono _ _ e
    obtain ⟨j, rfl⟩ : ∃ j', j = j' + 1 := ⟨j - 1, by omega⟩
    unfold gIf at e
    unfold hX12_inverseOf_2 wX12_timesNow
    have hf := g_fact hg hx hx2 hy (by omega)
    refine pX12_times (by decide) hk ha hb hg hx hx2 hy (by omega) ⟨⟨by omega, by omega⟩, fun c => ?_, fun c => ?_⟩
    · rw [if_pos c] at e
      cases e
      exact h
    · rw [if_neg c] at e
      exact ih j _ (by omega) e (by omega)
theorem pX12_inverseOf {f : Nat} {Φ : Int → aj_M → Prop} {q : List Nat} {x k a b n : Int} {m : aj_M} (hf : 20 ≤ f) (hk : m (1 :: q) 1 = k) (ha : m (1 :: q) 2 = a) (hb : m (1 :: q) 3 = b) (hg : gOK k a b n) (hx : 0 ≤ x) (hx2 : x < n) (h : Φ (gI k a b x) m) : wX12_inverseOf f Φ q x m := by
  have hf' := g_fact hg hx hx2 hx hx2
  exact hX12_invs hk ha hb hg hx hx2 hf'.2.2.2.2.2.2.2.2.2.1 h 13 f 0 (by omega) hf'.2.2.2.2.2.2.2.1 (by omega)
theorem pW12_within {f : Nat} {Φ : Int → aj_M → Prop} {v lo hi : Int} {m : aj_M} (hv : rL v) (hl : rL lo) (hh : rL hi) (h1 : lo ≤ v → v ≤ hi → Φ 1 m) (h0 : ¬ (lo ≤ v ∧ v ≤ hi) → Φ 0 m) : wX12_within f Φ v lo hi m := by
  unfold wX12_within
  exact ⟨hv, hl, fun c => h0 (by omega), fun c => ⟨hv, hh, fun c2 => h0 (by omega), fun c2 => h1 (by omega) (by omega)⟩⟩
theorem pX12_isMember {f : Nat} {Φ : Int → aj_M → Prop} {q : List Nat} {v n : Int} {m : aj_M} (hv : rL v) (hn : m (1 :: q) 4 = n) (hn2 : 0 ≤ n ∧ n ≤ 12) (h1 : 0 ≤ v → v < n → Φ 1 m) (h0 : ¬ (0 ≤ v ∧ v < n) → Φ 0 m) : wX12_isMember f Φ q v m := by
  unfold wX12_isMember
  simp only [Int.reduceToNat]
  rw [hn]
  exact ⟨⟨by omega, by omega⟩, pW12_within hv (by decide) ⟨by omega, by omega⟩ (fun c c2 => ⟨Or.inr rfl, h1 c (by omega)⟩) (fun c => ⟨Or.inl rfl, h0 (by omega)⟩)⟩
theorem pX12_isArc {f : Nat} {Φ : Int → aj_M → Prop} {q : List Nat} {v n : Int} {m : aj_M} (hv : rL v) (hn : m (1 :: q) 6 = n) (hn2 : 0 ≤ n ∧ n ≤ 12) (h1 : 0 ≤ v → v < n → Φ 1 m) (h0 : ¬ (0 ≤ v ∧ v < n) → Φ 0 m) : wX12_isArc f Φ q v m := by
  unfold wX12_isArc
  simp only [Int.reduceToNat]
  rw [hn]
  exact ⟨⟨by omega, by omega⟩, pW12_within hv (by decide) ⟨by omega, by omega⟩ (fun c c2 => ⟨Or.inr rfl, h1 c (by omega)⟩) (fun c => ⟨Or.inl rfl, h0 (by omega)⟩)⟩
