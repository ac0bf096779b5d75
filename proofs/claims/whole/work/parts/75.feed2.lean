/-! FEED: the reference -/
def zFw (a b c d e : Int) (k : Nat) : Int := if k < 4 then a else if k < 8 then b else if k < 12 then c else if k < 16 then d else e
theorem zTp4_in {T : Nat → Int} {n j : Nat} {v : Int} (h : n ≤ j ∧ j < n + 4) : zTp4 T n v j = zBy v (24 - 8 * (j - n)) := if_pos h
theorem zTp4_out {T : Nat → Int} {n j : Nat} {v : Int} (h : ¬ (n ≤ j ∧ j < n + 4)) : zTp4 T n v j = T j := if_neg h
theorem zFd_at {T : Nat → Int} {n k : Nat} {a b c d e : Int} (hk : k < 20) : zFd T n a b c d e (n + k) = zBy (zFw a b c d e k) (24 - 8 * (k % 4)) := by
  unfold zFd zFw
  by_cases h1 : k < 4
  · rw [zTp4_out (by omega), zTp4_out (by omega), zTp4_out (by omega), zTp4_out (by omega), zTp4_in (by omega), if_pos h1]
    exact congrArg (zBy a) (by omega)
  · rw [if_neg h1]
    by_cases h2 : k < 8
    · rw [zTp4_out (by omega), zTp4_out (by omega), zTp4_out (by omega), zTp4_in (by omega), if_pos h2]
      exact congrArg (zBy b) (by omega)
    · rw [if_neg h2]
      by_cases h3 : k < 12
      · rw [zTp4_out (by omega), zTp4_out (by omega), zTp4_in (by omega), if_pos h3]
        exact congrArg (zBy c) (by omega)
      · rw [if_neg h3]
        by_cases h4 : k < 16
        · rw [zTp4_out (by omega), zTp4_in (by omega), if_pos h4]
          exact congrArg (zBy d) (by omega)
        · rw [if_neg h4, zTp4_in (by omega)]
          exact congrArg (zBy e) (by omega)
theorem zFd_lo {T : Nat → Int} {n j : Nat} {a b c d e : Int} (hj : j < n) : zFd T n a b c d e j = T j := by
  unfold zFd
  rw [zTp4_out (by omega), zTp4_out (by omega), zTp4_out (by omega), zTp4_out (by omega), zTp4_out (by omega)]
theorem zFd_b {T : Nat → Int} {n : Nat} {a b c d e : Int} (h : ∀ j, 0 ≤ T j ∧ T j < 256) : ∀ j, 0 ≤ zFd T n a b c d e j ∧ zFd T n a b c d e j < 256 := by
  have h4 : ∀ (T : Nat → Int) (n : Nat) (v : Int), (∀ j, 0 ≤ T j ∧ T j < 256) → ∀ j, 0 ≤ zTp4 T n v j ∧ zTp4 T n v j < 256 := by
    intro T n v h j
    by_cases c : n ≤ j ∧ j < n + 4
    · rw [zTp4_in c]
      exact zBy_b
    · rw [zTp4_out c]
      exact h j
  exact h4 _ _ _ (h4 _ _ _ (h4 _ _ _ (h4 _ _ _ (h4 _ _ _ h))))
def zFdR (m0 m : aj_M) (T : Nat → Int) (n : Nat) : Prop := zo [[1], [3, 1]] m0 m ∧ (∀ k, k ≠ 5 → m [1] k = m0 [1] k) ∧ zTpR m T n
theorem hX12_fe77 {f : Nat} {Φ : Int → aj_M → Prop} {K : List Nat → Int → Int → Int → Int → Int → Int → aj_M → Prop} {m0 m : aj_M} {T : Nat → Int} {n k : Nat} {a b c d e w : Int} (hk : k < 20) (hn : n + 20 ≤ 900) (t : zFdR m0 m (zFd T n a b c d e) (n + k)) (hw : w = zFw a b c d e k) (h : ∀ m', zFdR m0 m' (zFd T n a b c d e) (n + (k + 1)) → K [1] a b c d e ((k : Int) + 1) m') : hX12_feed_77 f Φ K [1] a b c d e k w m := by
  obtain ⟨z, q, t1, t2⟩ := t
  unfold hX12_feed_77
  rw [t1]
  refine ⟨⟨by omega, by omega⟩, ⟨by omega, by omega⟩, ?_⟩
  rintro m1 rfl m2 rfl
  have e : (24 - 8 * ((k : Int) % 4)) = ((24 - 8 * (k % 4) : Nat) : Int) := by omega
  rw [zu_off (q := [1]) (by decide), t1, e, zB8_shr (by omega), Int.toNat_natCast, hw, ← zFd_at (T := T) (n := n) hk]
  refine h _ ⟨fun p hp => ?_, fun j hj => ?_, ?_, fun j hj => ?_⟩
  · rw [← z p hp]
    simp only [List.mem_cons, List.not_mem_nil, or_false, not_or] at hp
    rw [zu_off hp.1, zu_off hp.2]
  · rw [zu_tup, tup_o hj, zu_off (by decide)]
    exact q j hj
  · rw [zu_tup, tup_s]
    omega
  · rw [zu_off (by decide), zu_tup]
    by_cases c : j = n + k
    · subst c
      rw [tup_s]
    · rw [tup_o c]
      exact t2 j (by omega)
theorem hX12_fe {f : Nat} {Φ : Int → aj_M → Prop} {m0 : aj_M} {T : Nat → Int} {n : Nat} {a b c d e : Int} (hn : n + 20 ≤ 900) (h : ∀ m', zFdR m0 m' (zFd T n a b c d e) (n + 20) → Φ ((n + 20 : Nat) : Int) m') : ∀ (k i : Nat) (m : aj_M), i ≤ 20 → 20 - i < k → zFdR m0 m (zFd T n a b c d e) (n + i) → hX12_feed_24 f Φ k [1] a b c d e (i : Int) m := by
  intro k
  induction k with
  | zero => intro i m h1 h2; omega
  | succ k ih =>
    intro i m h1 h2 t
    have go : i < 20 → ∀ w, w = zFw a b c d e i → hX12_feed_77 f Φ (fun q0 v1 v2 v3 v4 v5 v6 m => hX12_feed_24 f Φ k q0 v1 v2 v3 v4 v5 v6 m) [1] a b c d e (i : Int) w m := by
      intro hi w hw
      exact hX12_fe77 hi hn t hw (fun m' t' => ih (i + 1) m' (by omega) (by omega) t')
    refine ⟨⟨by omega, by omega⟩, fun g => ?_, fun g => ⟨⟨by omega, by omega⟩, fun g1 => ⟨⟨by omega, by omega⟩, fun g2 => ⟨⟨by omega, by omega⟩, fun g3 => ⟨⟨by omega, by omega⟩, fun g4 => ?_, fun g4 => ?_⟩, fun g3 => ?_⟩, fun g2 => ?_⟩, fun g1 => ?_⟩⟩
    · have ei : i = 20 := by omega
      subst ei
      rw [t.2.2.1]
      exact h m t
    · exact go (by omega) _ (by unfold zFw; rw [if_neg (by omega), if_neg (by omega), if_neg (by omega), if_neg (by omega)])
    · exact go (by omega) _ (by unfold zFw; rw [if_neg (by omega), if_neg (by omega), if_neg (by omega), if_pos (by omega)])
    · exact go (by omega) _ (by unfold zFw; rw [if_neg (by omega), if_neg (by omega), if_pos (by omega)])
    · exact go (by omega) _ (by unfold zFw; rw [if_neg (by omega), if_pos (by omega)])
    · exact go (by omega) _ (by unfold zFw; rw [if_pos (by omega)])
theorem pX12_feed {f : Nat} {Φ : Int → aj_M → Prop} {m : aj_M} {T : Nat → Int} {n : Nat} {a b c d e : Int} (hf : 50 ≤ f) (hn : n ≤ 900) (t : zTpR m T n) (hno : 880 < n → Φ (-5) (rZ m)) (h : n ≤ 880 → ∀ m', zFdR (rZ m) m' (zFd T n a b c d e) (n + 20) → Φ ((n + 20 : Nat) : Int) m') : wX12_feed f Φ [1] a b c d e m := by
  rintro m1 rfl
  have t5 : aj_u m [1] 0 0 [1] 5 = n := by rw [zu_tup, tup_o (by decide)]; exact t.1
  rw [t5]
  refine ⟨⟨by omega, by omega⟩, fun g => ?_, fun g => hno (by omega)⟩
  refine hX12_fe (by omega) (h (by omega)) f 0 _ (by omega) (by omega) ⟨fun p _ => rfl, fun _ _ => rfl, t5, fun j hj => ?_⟩
  rw [zu_off (by decide), t.2 j (by omega), zFd_lo (by omega)]
