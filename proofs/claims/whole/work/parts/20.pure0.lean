/-! THE PURE PART: specs of the smallest methods -/
theorem pX11_isBounded {f : Nat} {Φ : Int → aj_M → Prop} {d g : Int} {m : aj_M} (hd : rI d) (hg : rI g) (h : Φ (if 2 ≤ d ∧ d ≤ 9 ∧ 3 ≤ g ∧ g ≤ 12 then 1 else 0) m) : wX11_isBounded f Φ d g m := by
  unfold wX11_isBounded
  refine ⟨hd, fun c => ?_, fun c => ⟨hd, fun c2 => ?_, fun c2 => ⟨hg, fun c3 => ?_, fun c3 => ⟨hg, fun c4 => ?_, fun c4 => ?_⟩⟩⟩⟩
  · rw [if_neg (by omega)] at h; exact h
  · rw [if_neg (by omega)] at h; exact h
  · rw [if_neg (by omega)] at h; exact h
  · rw [if_neg (by omega)] at h; exact h
  · rw [if_pos (by omega)] at h; exact h
theorem pX12_within {f : Nat} {Φ : Int → aj_M → Prop} {v lo hi : Int} {m : aj_M} (hv : rL v) (hl : rL lo) (hh : rL hi) (h : Φ (if lo ≤ v ∧ v ≤ hi then 1 else 0) m) : wX12_within f Φ v lo hi m := by
  unfold wX12_within
  refine ⟨hv, hl, fun c => ?_, fun c => ⟨hv, hh, fun c2 => ?_, fun c2 => ?_⟩⟩
  · rw [if_neg (by omega)] at h; exact h
  · rw [if_neg (by omega)] at h; exact h
  · rw [if_pos (by omega)] at h; exact h
theorem pX12_isBound {f : Nat} {Φ : Int → aj_M → Prop} {d g : Int} {m : aj_M} (hd : rI d) (hg : rI g) (h : Φ (if 2 ≤ d ∧ d ≤ 9 ∧ 3 ≤ g ∧ g ≤ 12 then 1 else 0) m) : wX12_isBound f Φ d g m := by
  unfold wX12_isBound
  refine ⟨hd, pX12_within (by omega) (by decide) (by decide) ?_⟩
  by_cases c : 2 ≤ d ∧ d ≤ 9
  · rw [if_pos c]
    refine ⟨by decide, fun e => absurd e (by decide), fun _ => ⟨hg, pX12_within (by omega) (by decide) (by decide) ?_⟩⟩
    by_cases c2 : 3 ≤ g ∧ g ≤ 12
    · rw [if_pos c2]
      rw [if_pos (by omega)] at h
      exact ⟨by decide, fun e => absurd e (by decide), fun _ => h⟩
    · rw [if_neg c2]
      rw [if_neg (by omega)] at h
      exact ⟨by decide, fun _ => h, fun e => absurd rfl e⟩
  · rw [if_neg c]
    rw [if_neg (by omega)] at h
    exact ⟨by decide, fun _ => h, fun e => absurd rfl e⟩
