/-! ANY LINE, ALL LINES: both readers -/
section LNL
variable {f n b : Nat} {T : Nat → Int} {c : List Int} {P : Nat → Int} {pl : Int}
theorem lcC_b {Φ : Int → aj_M → Prop} {m : aj_M} {r : (Nat × List Int × (Nat → Int) × Int) ⊕ (Int × Int)} (h : lcC Φ m T n r) : lcC (fun z m => (z = 0 ∨ z = 1) ∧ Φ z m) m T n r := by
  rcases r with ⟨b', c', P', pl'⟩ | ⟨k, a⟩
  · exact fun m' f1 l1 => ⟨Or.inr rfl, h m' f1 l1⟩
  · exact fun m' f1 l1 => ⟨Or.inl rfl, h m' f1 l1⟩
theorem ln_line (O : tpOK f T n) (hb : b ≤ n) (hc : c.length ≤ b) (I : lI P c b) (hpl : pl = 0 ∨ pl = 1) : ∃ r, gdL n b r ∧ (∀ (Φ : Int → aj_M → Prop) (m : aj_M), lC m T n b c P pl → lcC Φ m T n r → wX7_readLine f Φ [0, 0] m) ∧ (∀ (Ψ : aj_M → Prop) (m : aj_M), lR m T n b c P pl → lcR Ψ m T n r → wX12_readLine f Ψ [1] m) := by
  have hf := O.1
  have hn := O.2.2
  obtain ⟨aS, aU, aT⟩ := pn_all (T := T) (n := n) O 6 0 rfl
  have i206 : ∀ {m : aj_M}, lC m T n b c P pl → (m [0, 0] 7 = 206 ↔ tkK T n b = 6) := fun h => pc_is h.1 (Or.inl (by omega)) (by decide)
  have i207 : ∀ {m : aj_M}, lC m T n b c P pl → (m [0, 0] 7 = 207 ↔ tkK T n b = 7) := fun h => pc_is h.1 (Or.inl (by omega)) (by decide)
  have i208 : ∀ {m : aj_M}, lC m T n b c P pl → (m [0, 0] 7 = 208 ↔ tkK T n b = 9) := fun h => pc_is h.1 (Or.inl (by omega)) (by decide)
  have i209 : ∀ {m : aj_M}, lC m T n b c P pl → (m [0, 0] 7 = 209 ↔ tkK T n b = 8) := fun h => pc_is h.1 (Or.inl (by omega)) (by decide)
  have i210 : ∀ {m : aj_M}, lC m T n b c P pl → (m [0, 0] 7 = 210 ↔ tkK T n b = 10) := fun h => pc_is h.1 (Or.inl (by omega)) (by decide)
  have i211 : ∀ {m : aj_M}, lC m T n b c P pl → (m [0, 0] 7 = 211 ↔ tkK T n b = 11) := fun h => pc_is h.1 (Or.inl (by omega)) (by decide)
  have w0 : ∀ {m : aj_M}, lR m T n b c P pl → m [1] 11 = 0 := fun h => h.1.2.2.1
  by_cases g6 : tkK T n b = 6
  · obtain ⟨r, k1, k2, k3⟩ := ln_places (pl := pl) O hb hc I hpl g6
    refine ⟨r, k1, fun Φ m h hΦ => ?_, fun Ψ m h hΨ => ?_⟩
    · have e := (i206 h).mpr g6
      exact ⟨pc_r7 h.1, fun x => by omega, fun _ => k2 _ m h (lcC_b hΦ), fun x => by omega, fun x => by omega, fun x => by omega, fun x => by omega, fun x => by omega⟩
    · exact ⟨by rw [w0 h]; decide, fun _ => pr_is h.1 (Or.inl (by omega)) (fun _ => zb1 (k3 Ψ m h hΨ)) (fun x => absurd g6 x), fun x => absurd (w0 h) x⟩
  by_cases g7 : tkK T n b = 7
  · obtain ⟨r, k1, k2, k3⟩ := ln_arc (pl := pl) O hb hc I hpl g7
    refine ⟨r, k1, fun Φ m h hΦ => ?_, fun Ψ m h hΨ => ?_⟩
    · have e := (i207 h).mpr g7
      exact ⟨pc_r7 h.1, fun x => by omega, fun x => by omega, fun _ => k2 _ m h (lcC_b hΦ), fun x => by omega, fun x => by omega, fun x => by omega, fun x => by omega⟩
    · exact ⟨by rw [w0 h]; decide, fun _ => pr_is h.1 (Or.inl (by omega)) (fun x => absurd x g6) (fun _ => zb0 (pr_is h.1 (Or.inl (by omega)) (fun _ => zc1 (k3 Ψ m h hΨ)) (fun x => absurd g7 x))), fun x => absurd (w0 h) x⟩
  by_cases g9 : tkK T n b = 9
  · obtain ⟨r, k1, k2, k3⟩ := ln_half (pl := pl) O hb hc I hpl g9
    refine ⟨r, k1, fun Φ m h hΦ => ?_, fun Ψ m h hΨ => ?_⟩
    · have e := (i208 h).mpr g9
      exact ⟨pc_r7 h.1, fun x => by omega, fun x => by omega, fun x => by omega, fun _ => k2 _ m h (lcC_b hΦ), fun x => by omega, fun x => by omega, fun x => by omega⟩
    · exact ⟨by rw [w0 h]; decide, fun _ => pr_is h.1 (Or.inl (by omega)) (fun x => absurd x g6) (fun _ => zb0 (pr_is h.1 (Or.inl (by omega)) (fun x => absurd x g7) (fun _ => zc0 (pr_is h.1 (Or.inl (by omega)) (fun _ => zb1 (k3 Ψ m h hΨ)) (fun x => absurd g9 x))))), fun x => absurd (w0 h) x⟩
  by_cases g10 : tkK T n b = 10
  · obtain ⟨r, k1, k2, k3⟩ := ln_law (pl := pl) (lw := 0) (ty := true) O hb hc I hpl (by omega) (Or.inl ⟨rfl, rfl⟩) aT (by omega) (by omega) (by omega) (fun Ψ m hD h => dd_Truth (by omega) (by omega) hD h)
    refine ⟨r, k1, fun Φ m h hΦ => ?_, fun Ψ m h hΨ => ?_⟩
    · have e := (i210 h).mpr g10
      exact ⟨pc_r7 h.1, fun x => by omega, fun x => by omega, fun x => by omega, fun x => by omega, fun x => by omega, fun _ => k2 _ m h (lcC_b hΦ), fun x => by omega⟩
    · have e18 : ∀ m2, hX12_readLaw_18 f Ψ [1] 0 m2 = rG8 f 70 0 (fun m3 => hX12_readLaw_45 f Ψ [1] ((0 : Nat) : Int) (m2 [4, 1] 204) m3) [1] 0 m2 := fun m2 => propext ⟨fun x => x.2.1 (by decide), fun x => ⟨by decide, fun _ => x, fun y => absurd y (by decide)⟩⟩
      have hl : wX12_readLaw f Ψ [1] ((m [1] 9) - 10) m := by
        rw [h.1.1.2.2.1, g10, show (10 : Int) - 10 = 0 from rfl]
        unfold wX12_readLaw
        simp only [e18]
        exact k3 Ψ m h hΨ
      exact ⟨by rw [w0 h]; decide, fun _ => pr_is h.1 (Or.inl (by omega)) (fun x => absurd x g6) (fun _ => zb0 (pr_is h.1 (Or.inl (by omega)) (fun x => absurd x g7) (fun _ => zc0 (pr_is h.1 (Or.inl (by omega)) (fun x => absurd x g9) (fun _ => zb0 (pr_is h.1 (Or.inl (by omega)) (fun _ => zc1 hl) (fun x => absurd g10 x))))))), fun x => absurd (w0 h) x⟩
  by_cases g11 : tkK T n b = 11
  · obtain ⟨r, k1, k2, k3⟩ := ln_law (pl := pl) (lw := 1) (ty := false) O hb hc I hpl (by omega) (Or.inr ⟨rfl, rfl⟩) aS (by omega) (by omega) (by omega) (fun Ψ m hD h => dd_Sum (by omega) (by omega) hD h)
    refine ⟨r, k1, fun Φ m h hΦ => ?_, fun Ψ m h hΨ => ?_⟩
    · have e := (i211 h).mpr g11
      exact ⟨pc_r7 h.1, fun x => by omega, fun x => by omega, fun x => by omega, fun x => by omega, fun x => by omega, fun x => by omega, fun _ => k2 _ m h (lcC_b hΦ)⟩
    · have e18 : ∀ m2, hX12_readLaw_18 f Ψ [1] 1 m2 = rG8 f 70 3 (fun m3 => hX12_readLaw_45 f Ψ [1] ((1 : Nat) : Int) (m2 [4, 1] 204) m3) [1] 0 m2 := fun m2 => propext ⟨fun x => x.2.2 rfl, fun x => ⟨by decide, fun y => absurd rfl y, fun _ => x⟩⟩
      have hl : wX12_readLaw f Ψ [1] ((m [1] 9) - 10) m := by
        rw [h.1.1.2.2.1, g11, show (11 : Int) - 10 = 1 from rfl]
        unfold wX12_readLaw
        simp only [e18]
        exact k3 Ψ m h hΨ
      exact ⟨by rw [w0 h]; decide, fun _ => pr_is h.1 (Or.inl (by omega)) (fun x => absurd x g6) (fun _ => zb0 (pr_is h.1 (Or.inl (by omega)) (fun x => absurd x g7) (fun _ => zc0 (pr_is h.1 (Or.inl (by omega)) (fun x => absurd x g9) (fun _ => zb0 (pr_is h.1 (Or.inl (by omega)) (fun x => absurd x g10) (fun _ => zc0 (pr_is h.1 (Or.inl (by omega)) (fun _ => zb1 hl) (fun x => absurd g11 x))))))))), fun x => absurd (w0 h) x⟩
  refine ⟨.inr (tkF T n b 2, (tkA T n b : Nat)), ln_cant O hb, fun Φ m h hΦ => ?_, fun Ψ m h hΨ => ?_⟩
  · have cs : wX7_cantStand f (fun z1 m1 => (z1 = 0 ∨ z1 = 1) ∧ Φ z1 m1) [0, 0] m := pc_cant h.1 (fun m1 f1 p1 => ⟨Or.inl rfl, hΦ m1 (lFC_p f1) p1⟩)
    exact ⟨pc_r7 h.1, fun _ => cs, fun x => absurd ((i206 h).mp x) g6, fun x => absurd ((i207 h).mp x) g7, fun x => absurd ((i208 h).mp x) g9, fun _ => cs, fun x => absurd ((i210 h).mp x) g10, fun x => absurd ((i211 h).mp x) g11⟩
  · exact ⟨by rw [w0 h]; decide, fun _ => pr_is h.1 (Or.inl (by omega)) (fun x => absurd x g6) (fun _ => zb0 (pr_is h.1 (Or.inl (by omega)) (fun x => absurd x g7) (fun _ => zc0 (pr_is h.1 (Or.inl (by omega)) (fun x => absurd x g9) (fun _ => zb0 (pr_is h.1 (Or.inl (by omega)) (fun x => absurd x g10) (fun _ => zc0 (pr_is h.1 (Or.inl (by omega)) (fun x => absurd x g11) (fun _ => zb0 (pr_fails h.1 (fun m1 f1 p1 => hΨ m1 (lFR_p f1) p1))))))))))), fun x => absurd (w0 h) x⟩
theorem dd_closes {Ψ : aj_M → Prop} {m : aj_M} (hD : prD m) (hK : lDX Ψ m) : wX12_closes f Ψ [1] m := by
  refine pr_eatsD hD (zc0 (pr_failsD hD ?_))
  rintro _ rfl
  exact hK _ (lFR_4 lFR_r) (fun k a x => prX_u x)
/-- a line is closed: what becomes of the row -/
theorem lI_0 {b b' : Nat} (I : lI P c b) (h : b < b') : lI (tup P 0 (P 0 + 1)) c b' := by
  obtain ⟨i1, i2, i3, i4, i5, i6, i7, i8, i9, i10⟩ := I
  refine ⟨by rw [tup_o (by omega), tup_o (by omega), tup_o (by omega), tup_o (by omega)]; exact i1, by rw [tup_o (by omega)]; exact i2, by rw [tup_o (by omega)]; exact i3, fun j hj => ?_, lLw_o i5 (tup_o (by omega)) (tup_o (by omega)) (tup_o (by omega)), lLw_o i6 (tup_o (by omega)) (tup_o (by omega)) (tup_o (by omega)), by rw [tup_o (by omega)]; exact i7, by rw [tup_o (by omega)]; exact i8, by rw [tup_o (by omega)]; exact i9, by rw [tup_s]; omega⟩
  rw [tup_o (by omega)] at hj
  rw [tup_o (by omega), tup_o (by omega), tup_o (by omega), tup_o (by omega), tup_o (by omega), tup_o (by omega), tup_o (by omega), tup_o (by omega), tup_o (by omega)]
  exact i4 j hj
theorem lC_0 {m : aj_M} {v : Int} (h : lC m T n b c P pl) : lC (aj_u m [3, 0, 0] 5 v) T n b c (tup P 0 v) pl := by
  obtain ⟨hc, ⟨h1, h2, h3, h4, h5, h6, h7, h8⟩, hpl⟩ := h
  have o : ∀ p, p ≠ [3, 0, 0] → aj_u m [3, 0, 0] 5 v p = m p := fun p hp => zu_off hp
  have e3 : ∀ j, j ≠ 5 → aj_u m [3, 0, 0] 5 v [3, 0, 0] j = m [3, 0, 0] j := fun j hj => by rw [zu_tup, tup_o hj]
  refine ⟨pcC_off hc (fun j _ => by rw [o _ (by decide)]) (o _ (by decide)) (by rw [o _ (by decide)]) (o _ (by decide)), ⟨?_, by rw [e3 2 (by omega), tup_o (by omega)]; exact h2, by rw [e3 3 (by omega), tup_o (by omega)]; exact h3, by rw [e3 4 (by omega), tup_o (by omega)]; exact h4, by rw [zu_tup, tup_s, tup_s], ?_, fun j hj => ?_, ?_⟩, by rw [o _ (by decide)]; exact hpl⟩
  · rw [tup_o (by omega), tup_o (by omega), tup_o (by omega), tup_o (by omega)]
    exact gC_off h1 (o _ (by decide)) (o _ (by decide)) (o _ (by decide)) (o _ (by decide))
  · rw [e3 6 (by omega)]
    unfold lHv
    rw [tup_o (by omega)]
    obtain ⟨H, a1, a2, a3⟩ := h6
    exact ⟨H, a1, a2, fun j hj => by rw [tup_o (by omega)]; exact a3 j hj⟩
  · rw [tup_o (by omega)] at hj
    rw [o _ (by decide), o _ (by decide), o _ (by decide), tup_o (by omega), tup_o (by omega), tup_o (by omega)]
    exact h7 j hj
  · unfold lGs
    rw [o _ (by decide), tup_o (by omega), tup_o (by omega), tup_o (by omega), tup_o (by omega), tup_o (by omega), tup_o (by omega)]
    exact h8
def gdE (n : Nat) : (Nat × List Int × (Nat → Int) × Int) ⊕ (Int × Int) → Prop
  | .inl (b', c', P', _) => b' ≤ n ∧ c'.length ≤ b' ∧ lI P' c' b'
  | .inr (k, a) => (1 ≤ k ∧ k ≤ 4) ∧ 0 ≤ a ∧ a ≤ 900
theorem lcC_t {Φ : Int → aj_M → Prop} {m m1 : aj_M} {r : (Nat × List Int × (Nat → Int) × Int) ⊕ (Int × Int)} (h : lcC Φ m T n r) (f1 : lFC m m1) : lcC Φ m1 T n r := by
  rcases r with ⟨b', c', P', pl'⟩ | ⟨k, a⟩
  · exact fun m' f2 l2 => h m' (lFC_t f1 f2) l2
  · exact fun m' f2 l2 => h m' (lFC_t f1 f2) l2
theorem lcR_t {Ψ : aj_M → Prop} {m m1 : aj_M} {r : (Nat × List Int × (Nat → Int) × Int) ⊕ (Int × Int)} (h : lcR Ψ m T n r) (f1 : lFR m m1) : lcR Ψ m1 T n r := by
  rcases r with ⟨b', c', P', pl'⟩ | ⟨k, a⟩
  · exact fun m' f2 l2 => h m' (lFR_t f1 f2) l2
  · exact fun m' f2 l2 => h m' (lFR_t f1 f2) l2
theorem d106 {Φ : Int → aj_M → Prop} {m : aj_M} (hD : prD m) (h : hX12_works_133 f Φ [1] m) : ∀ k, 0 < k → hX12_works_106 f Φ k [1] m
  | 0, x => absurd x (by omega)
  | k + 1, _ => ⟨hD.1, fun _ => h, fun x => absurd x hD.2⟩
theorem ln_all (O : tpOK f T n) : ∀ (w b : Nat) (c : List Int) (P : Nat → Int) (pl : Int), n - b ≤ w → b ≤ n → c.length ≤ b → lI P c b → (pl = 0 ∨ pl = 1) → ∃ r, gdE n r ∧ (∀ (Φ : Int → aj_M → Prop) (m : aj_M) (i k : Nat), i ≤ b → n - b < k → lC m T n b c P pl → lcC Φ m T n r → hX7_readAll_59 f Φ k [0, 0] (i : Int) m) ∧ (∀ (Φ : Int → aj_M → Prop) (m : aj_M) (k : Nat), n - b < k → lR m T n b c P pl → lcR (fun m' => hX12_works_133 f Φ [1] m') m T n r → hX12_works_106 f Φ k [1] m) := by
  have hf := O.1
  have hn := O.2.2
  have atEnd : ∀ (b : Nat) (c : List Int) (P : Nat → Int) (pl : Int), b ≤ n → c.length ≤ b → lI P c b → tkK T n b = 24 → ∃ r, gdE n r ∧ (∀ (Φ : Int → aj_M → Prop) (m : aj_M) (i k : Nat), i ≤ b → n - b < k → lC m T n b c P pl → lcC Φ m T n r → hX7_readAll_59 f Φ k [0, 0] (i : Int) m) ∧ (∀ (Φ : Int → aj_M → Prop) (m : aj_M) (k : Nat), n - b < k → lR m T n b c P pl → lcR (fun m' => hX12_works_133 f Φ [1] m') m T n r → hX12_works_106 f Φ k [1] m) := by
    intro b c P pl hb hc I g
    refine ⟨.inl (b, c, P, pl), ⟨hb, hc, I⟩, fun Φ m i k hi hk h hΦ => ?_, fun Φ m k hk h hΨ => ?_⟩
    · obtain ⟨k, rfl⟩ : ∃ k', k = k' + 1 := ⟨k - 1, by omega⟩
      have e := hΦ m lFC_r h
      exact ⟨⟨by omega, by omega⟩, by rw [h.1.2.1]; exact ⟨by omega, by omega⟩, fun _ => e, fun _ => ⟨pc_r7 h.1, fun _ => e, fun x => absurd ((pc_is h.1 (k := 24) (Or.inl (by omega)) (by decide)).mpr g) x⟩⟩
    · obtain ⟨k, rfl⟩ : ∃ k', k = k' + 1 := ⟨k - 1, by omega⟩
      have e := hΨ m lFR_r h
      exact ⟨by rw [h.1.2.2.1]; decide, fun _ => e, fun _ => ⟨pr_r9 h.1, fun _ => e, fun x => absurd (h.1.1.2.2.1.trans g) x⟩⟩
  intro w
  induction w with
  | zero =>
    intro b c P pl hw hb hc I hpl
    refine atEnd b c P pl hb hc I ?_
    have hA := tkA_b (T := T) hb
    unfold tkK tkKa
    rw [if_pos (by omega)]
  | succ w ih =>
    intro b c P pl hw hb hc I hpl
    have hA := tkA_b (T := T) hb
    by_cases g : tkK T n b = 24
    · exact atEnd b c P pl hb hc I g
    · obtain ⟨hE1, hE2⟩ := tk_more (T := T) hb g
      have i1 : ∀ {m : aj_M}, lC m T n b c P pl → ¬ m [0, 0] 7 = 1 := fun h x => g ((pc_is h.1 (k := 24) (Or.inl (by omega)) (by decide)).mp x)
      obtain ⟨r1, k1, k2, k3⟩ := ln_line (f := f) (T := T) (pl := pl) O hb hc I hpl
      have goC : ∀ (Φ : Int → aj_M → Prop) (m : aj_M) (i k : Nat), i ≤ b → lC m T n b c P pl → lcC (fun z1 m1 => rI z1 ∧ (z1 = 0 → Φ 0 m1) ∧ (¬ (z1 = 0) → wX7_take f (fun z2 m2 => rI z2 ∧ (¬ z2 = 0 → ∀ m3, m3 = aj_u m2 [3, 0, 0] 5 ((m2 [3, 0, 0] 5) + 1) → hX7_readAll_59 f Φ k [0, 0] ((i : Int) + 1) m3) ∧ (z2 = 0 → Φ 0 m2)) [0, 0] 59 m1)) m T n r1 → hX7_readAll_59 f Φ (k + 1) [0, 0] (i : Int) m := by
        intro Φ m i k hi h hK
        exact ⟨⟨by omega, by omega⟩, by rw [h.1.2.1]; exact ⟨by omega, by omega⟩, fun x => by rw [h.1.2.1] at x; omega, fun _ => ⟨pc_r7 h.1, fun x => absurd x (i1 h), fun _ => k2 _ m h hK⟩⟩
      have goR : ∀ (Φ : Int → aj_M → Prop) (m : aj_M) (k : Nat), lR m T n b c P pl → lcR (fun m1 => wX12_closes f (fun m2 => hX12_works_106 f Φ k [1] m2) [1] m1) m T n r1 → hX12_works_106 f Φ (k + 1) [1] m := by
        intro Φ m k h hK
        exact ⟨by rw [h.1.2.2.1]; decide, fun x => absurd h.1.2.2.1 x, fun _ => ⟨pr_r9 h.1, fun x => absurd (h.1.1.2.2.1.symm.trans x) g, fun _ => k3 _ m h hK⟩⟩
      rcases r1 with ⟨b1, c1, P1, pl1⟩ | ⟨x1, a1⟩
      · obtain ⟨q1, q2, q3, q4, q5⟩ := k1
        have hE' := tkE_b (T := T) q2
        by_cases g2 : tkK T n b1 = 30
        · obtain ⟨hE3, hE4⟩ := tk_more (T := T) q2 (by omega)
          obtain ⟨r2, l1, l2, l3⟩ := ih (tkE T n b1) c1 (tup P1 0 (P1 0 + 1)) pl1 (by omega) hE'.2 (by omega) (lI_0 q4 (by omega)) q5
          refine ⟨r2, l1, fun Φ m i k hi hk h hΦ => ?_, fun Φ m k hk h hΨ => ?_⟩
          · obtain ⟨k, rfl⟩ : ∃ k', k = k' + 1 := ⟨k - 1, by omega⟩
            refine goC Φ m i k hi h (fun m1 f1 y1 => zb1 ?_)
            refine pc_take (k := 30) O q2 y1.1 (Or.inr (by omega)) (by decide) (fun _ m2 f2 p2 => zc1 ?_) (fun x => absurd g2 x)
            rintro _ rfl
            have y2 := lC_s y1 f2 p2
            have e5 : m2 [3, 0, 0] 5 = P1 0 := y2.2.1.2.2.2.2.1
            rw [e5]
            exact l2 Φ _ (i + 1) k (by omega) (by omega) (lC_0 y2) (lcC_t hΦ (lFC_u (lFC_t f1 (lFC_p f2)) (by decide)))
          · obtain ⟨k, rfl⟩ : ∃ k', k = k' + 1 := ⟨k - 1, by omega⟩
            refine goR Φ m k h (fun m1 f1 y1 => ?_)
            refine pr_eats O q2 y1.1 (Or.inr (by omega)) (fun _ m2 f2 p2 => zc1 ?_) (fun x => absurd g2 x)
            rintro _ rfl
            have y2 := lR_s y1 f2 p2
            have e0 : m2 [4, 1] 0 = P1 0 := y2.2.1 0 (by omega)
            rw [show (0 : Int).toNat = 0 from rfl, e0]
            exact l3 Φ _ k (by omega) (lR_u y2 (by omega)) (lcR_t hΨ (lFR_4 (lFR_t f1 (lFR_p f2))))
        · refine ⟨.inr (tkF T n b1 2, (tkA T n b1 : Nat)), ⟨tkF_g (by omega), tkA_g hn q2⟩, fun Φ m i k hi hk h hΦ => ?_, fun Φ m k hk h hΨ => ?_⟩
          · obtain ⟨k, rfl⟩ : ∃ k', k = k' + 1 := ⟨k - 1, by omega⟩
            refine goC Φ m i k hi h (fun m1 f1 y1 => zb1 ?_)
            exact pc_take (k := 30) O q2 y1.1 (Or.inr (by omega)) (by decide) (fun x => absurd x g2) (fun _ m2 f2 p2 => zc0 (hΦ m2 (lFC_t f1 (lFC_p f2)) p2))
          · obtain ⟨k, rfl⟩ : ∃ k', k = k' + 1 := ⟨k - 1, by omega⟩
            refine goR Φ m k h (fun m1 f1 y1 => ?_)
            refine pr_eats O q2 y1.1 (Or.inr (by omega)) (fun x => absurd x g2) (fun _ => zc0 (pr_fails y1.1 (fun m2 f2 p2 => ?_)))
            rintro _ rfl
            have hD := prX_D p2 (tkF_g (by omega))
            exact d106 (prD_u hD) (hΨ _ (lFR_4 (lFR_t f1 (lFR_p f2))) (prX_u p2)) k (by omega)
      · refine ⟨.inr (x1, a1), k1, fun Φ m i k hi hk h hΦ => ?_, fun Φ m k hk h hΨ => ?_⟩
        · obtain ⟨k, rfl⟩ : ∃ k', k = k' + 1 := ⟨k - 1, by omega⟩
          exact goC Φ m i k hi h (fun m1 f1 y1 => zb0 (hΦ m1 f1 y1))
        · obtain ⟨k, rfl⟩ : ∃ k', k = k' + 1 := ⟨k - 1, by omega⟩
          refine goR Φ m k h (fun m1 f1 y1 => ?_)
          have hD := prX_D y1 k1.1
          refine pr_eatsD hD (zc0 (pr_failsD hD ?_))
          rintro _ rfl
          exact d106 (prD_u hD) (hΨ _ (lFR_4 f1) (prX_u y1)) k (by omega)
end LNL
