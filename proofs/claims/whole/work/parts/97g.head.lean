/-! THE HEAD OF A WORKS: both readers -/
def pP0 : Nat → Int := fun j => if j = 1 ∨ j = 2 ∨ j = 4 ∨ j = 5 then 1 else 0
def eqG (P : Nat → Int) : Prop := ∀ j, j = 0 ∨ 5 ≤ j → P j = pP0 j
theorem pP0_z {j : Nat} (h : j = 0 ∨ j = 3 ∨ 6 ≤ j) : pP0 j = 0 := if_neg (by omega)
theorem lI_gr {P : Nat → Int} {b : Nat} (h : eqG P) (hg : gOK (P 1) (P 2) (P 3) (P 4)) : lI P [] b := by
  refine ⟨hg, ?_, ?_, fun j hj => ?_, Or.inl ?_, Or.inl ?_, ?_, ?_, ?_, ?_⟩
  · rw [h 5 (by omega)]; decide
  · rw [h 6 (by omega)]; decide
  · rw [h 6 (by omega), pP0_z (by omega)] at hj
    omega
  · rw [h _ (by omega)]; exact pP0_z (by omega)
  · rw [h _ (by omega)]; exact pP0_z (by omega)
  · rw [h _ (by omega)]; exact pP0_z (by omega)
  · rw [h _ (by omega)]; exact pP0_z (by omega)
  · rw [h 62 (by omega)]; decide
  · rw [h 0 (by omega), pP0_z (by omega)]
    omega
theorem lP_gr {m m' : aj_M} {P : Nat → Int} (h : lP m pP0) (z : zo [[0, 3, 0, 0], [1, 0, 3, 0, 0], [2, 0, 3, 0, 0], [3, 0, 3, 0, 0]] m m') (hg : gC m' [0, 3, 0, 0] (P 1) (P 2) (P 3) (P 4)) (e : eqG P) : lP m' P := by
  obtain ⟨h1, h2, h3, h4, h5, h6, h7, h8⟩ := h
  have e3 : m' [3, 0, 0] = m [3, 0, 0] := z _ (by decide)
  refine ⟨hg, by rw [e3, e 62 (by omega)]; exact h2, by rw [e3, e 5 (by omega)]; exact h3, by rw [e3, e 6 (by omega)]; exact h4, by rw [e3, e 0 (by omega)]; exact h5, ?_, fun j hj => ?_, ?_⟩
  · rw [e3]
    unfold lHv
    rw [e 6 (by omega)]
    obtain ⟨H, a1, a2, a3⟩ := h6
    exact ⟨H, a1, a2, fun j hj => by rw [e _ (by omega)]; exact a3 j hj⟩
  · rw [e 6 (by omega), pP0_z (by omega)] at hj
    omega
  · unfold lGs
    rw [z [1, 3, 0, 0] (by decide), e 7 (by omega), e 8 (by omega), e 9 (by omega), e 10 (by omega), e 11 (by omega), e 12 (by omega)]
    exact h8
theorem cT_gr {k : Int} (h : kOK k) : (201 ≤ cT k ∧ cT k ≤ 204 ↔ 1 ≤ k ∧ k ≤ 4) ∧ (1 ≤ k ∧ k ≤ 4 → cT k = 200 + k) := by
  unfold kOK at h
  obtain ⟨i, rfl⟩ : ∃ i : Nat, k = i := ⟨k.toNat, by omega⟩
  have q : (List.range 42).all (fun i => decide (26 ≤ i ∧ i ≤ 29 ∨ ((201 ≤ cT (i : Int) ∧ cT (i : Int) ≤ 204 ↔ 1 ≤ (i : Int) ∧ (i : Int) ≤ 4) ∧ (1 ≤ (i : Int) ∧ (i : Int) ≤ 4 → cT (i : Int) = 200 + (i : Int))))) = true := by decide +kernel
  rw [List.all_eq_true] at q
  rcases of_decide_eq_true (q i (List.mem_range.mpr (by omega))) with a | a
  · omega
  · exact a
def gdG (n b : Nat) : (Nat × List Int × (Nat → Int) × Int) ⊕ (Int × Int) → Prop
  | .inl (b', c', P', pl') => b < b' ∧ b' ≤ n ∧ c' = [] ∧ pl' = 0 ∧ lI P' [] 0
  | .inr (k, a) => (1 ≤ k ∧ k ≤ 4) ∧ 0 ≤ a ∧ a ≤ 900
section HDG
variable {f n b : Nat} {T : Nat → Int}
/-- the group is made: the class -/
theorem lC_gr {m m' : aj_M} {P : Nat → Int} (h : lC m T n b [] pP0 0) (z : zo [[0, 3, 0, 0], [1, 0, 3, 0, 0], [2, 0, 3, 0, 0], [3, 0, 3, 0, 0]] m m') (hg : gC m' [0, 3, 0, 0] (P 1) (P 2) (P 3) (P 4)) (e : eqG P) : lC m' T n b [] P 0 ∧ lFC m m' := by
  refine ⟨⟨pcC_off h.1 (fun j _ => by rw [z _ (by decide)]) (z _ (by decide)) (by rw [z _ (by decide)]) (z _ (by decide)), lP_gr h.2.1 z hg e, by rw [z _ (by decide)]; exact h.2.2⟩, zo_m z (by decide), fun j _ => by rw [z _ (by decide)]⟩
theorem gPr_ok1 {a : Int} (h : 1 ≤ a ∧ a ≤ 12) : gOK 1 a 0 (a * 1) := Or.inl ⟨rfl, h.1, h.2, by omega⟩
theorem hd_group (O : tpOK f T n) (hb : b ≤ n) : ∃ r, gdG n b r ∧ (∀ (Φ : Int → aj_M → Prop) (m : aj_M), lC m T n b [] pP0 0 → lcC Φ m T n r → wX7_readKind f Φ [0, 0] m) ∧ (∀ (Ψ : aj_M → Prop) (m : aj_M), lR m T n b [] pP0 0 → lcR Ψ m T n r → wX12_readGroup f Ψ [1] m) := by
  have hf := O.1
  have hn := O.2.2
  obtain ⟨c1, c2⟩ := cT_gr (tkK_ok (T := T) (n := n) (b := b))
  by_cases g : 1 ≤ tkK T n b ∧ tkK T n b ≤ 4
  · obtain ⟨hE1, hE2⟩ := tk_more (T := T) hb (by omega)
    have hE := tkE_b (T := T) hb
    have b1 := hE.2
    have e7 := c2 g
    generalize eb1 : tkE T n b = B1 at hE1 b1 hE
    generalize ek : tkK T n b = k at g e7 c1 c2
    have hEb := tkE_b (T := T) b1
    have m7 : ∀ {m : aj_M}, lC m T n b [] pP0 0 → m [0, 0] 7 = 200 + k := fun h => by rw [pc_7 h.1, ek, e7]
    -- both come to what stands behind the word
    have goC : ∀ (Φ : Int → aj_M → Prop) (m : aj_M), lC m T n b [] pP0 0 → (∀ m2, lFC m m2 → lC m2 T n B1 [] pP0 0 → (¬ k = 4 → (¬ k = 2 → hX7_readKind_63 f Φ [0, 0] (200 + k) [0, 0] 1 12 m2) ∧ (k = 2 → hX7_readKind_63 f Φ [0, 0] (200 + k) [0, 0] 1 6 m2)) ∧ (k = 4 → wX0_makeQuaternions f (fun m3 => Φ 1 m3) [0, 3, 0, 0] m2)) → wX7_readKind f Φ [0, 0] m := by
      intro Φ m h hK
      have e := m7 h
      have r := pc_r7 h.1
      unfold wX7_readKind
      rw [e] at r ⊢
      refine ⟨r, fun x => by omega, fun _ => ⟨r, fun _ => pc_step O hb h.1 (fun m2 f2 p2 => ?_), fun x => by omega⟩⟩
      rw [eb1] at p2
      have hk := hK m2 (lFC_p f2) (lC_s h f2 p2)
      exact ⟨r, fun x => ⟨r, fun y => (hk.1 (by omega)).1 (by omega), fun y => (hk.1 (by omega)).2 (by omega)⟩, fun x => hk.2 (by omega)⟩
    have goR : ∀ (Ψ : aj_M → Prop) (m : aj_M), lR m T n b [] pP0 0 → (∀ m2, lFR m m2 → lR m2 T n B1 [] (tup pP0 1 k) 0 → (¬ k = 4 → (¬ k = 2 → hX12_readGroup_74 f Ψ [1] k [4, 1] 2 [1] 1 12 m2) ∧ (k = 2 → hX12_readGroup_74 f Ψ [1] k [4, 1] 2 [1] 1 6 m2)) ∧ (k = 4 → ∀ m3, m3 = aj_u m2 [4, 1] (4 : Int).toNat 8 → Ψ m3)) → wX12_readGroup f Ψ [1] m := by
      intro Ψ m h hK
      have e9 : m [1] 9 = k := h.1.1.2.2.1.trans ek
      unfold wX12_readGroup
      rw [e9]
      refine ⟨⟨by omega, by omega⟩, pX12_within ⟨by omega, by omega⟩ (by decide) (by decide) ?_⟩
      rw [if_pos ⟨by omega, by omega⟩]
      refine zc1 ⟨by rw [h.1.2.2.1]; decide, fun _ => pr_next O hb h.1 (fun m1 f1 p1 => ?_), fun x => absurd h.1.2.2.1 x⟩
      rw [eb1] at p1
      rintro _ rfl
      have hk := hK _ (lFR_4 (lFR_p f1)) (lR_u (k := 1) (v := k) (lR_s h f1 p1) (by omega))
      exact ⟨⟨by omega, by omega⟩, fun x => ⟨⟨by omega, by omega⟩, fun y => (hk.1 x).1 y, fun y => (hk.1 x).2 y⟩, fun x => hk.2 x⟩
    by_cases k4 : k = 4
    · subst k4
      have eG : eqG (tup (tup pP0 1 4) 4 8) := fun j hj => by rw [tup_o (by omega), tup_o (by omega)]
      have hgo : gOK (tup (tup pP0 1 4) 4 8 1) (tup (tup pP0 1 4) 4 8 2) (tup (tup pP0 1 4) 4 8 3) (tup (tup pP0 1 4) 4 8 4) := Or.inr (Or.inr (Or.inr ⟨rfl, rfl⟩))
      refine ⟨.inl (B1, [], tup (tup pP0 1 4) 4 8, 0), ⟨by omega, b1, rfl, rfl, lI_gr eG hgo⟩, fun Φ m h hΦ => goC Φ m h (fun m2 f2 l2 => ⟨fun x => absurd rfl x, fun _ => ?_⟩), fun Ψ m h hΨ => goR Ψ m h (fun m2 f2 l2 => ⟨fun x => absurd rfl x, fun _ => ?_⟩)⟩
      · refine pX0_makeQuaternions (c := 1) (d := 0) (by omega) (fun m3 z3 g3 => ?_)
        obtain ⟨l3, f3⟩ := lC_gr (P := tup (tup pP0 1 4) 4 8) l2 z3 g3 eG
        exact hΦ m3 (lFC_t f2 f3) l3
      · rintro _ rfl
        exact hΨ _ (lFR_4 f2) (lR_u l2 (by decide))
    · obtain ⟨hi, ehi⟩ : ∃ hi : Int, (k = 2 ∧ hi = 6) ∨ (k ≠ 2 ∧ hi = 12) := by
        by_cases x : k = 2
        · exact ⟨6, Or.inl ⟨x, rfl⟩⟩
        · exact ⟨12, Or.inr ⟨x, rfl⟩⟩
      have rhi : rI hi := ⟨by omega, by omega⟩
      have goC2 : ∀ (Φ : Int → aj_M → Prop) (m : aj_M), lC m T n b [] pP0 0 → (∀ m2, lFC m m2 → lC m2 T n B1 [] pP0 0 → hX7_readKind_63 f Φ [0, 0] (200 + k) [0, 0] 1 hi m2) → wX7_readKind f Φ [0, 0] m := by
        intro Φ m h hK
        refine goC Φ m h (fun m2 f2 l2 => ⟨fun _ => ⟨fun x => ?_, fun x => ?_⟩, fun x => absurd x k4⟩)
        · have := hK m2 f2 l2
          rwa [show hi = 12 by omega] at this
        · have := hK m2 f2 l2
          rwa [show hi = 6 by omega] at this
      have goR2 : ∀ (Ψ : aj_M → Prop) (m : aj_M), lR m T n b [] pP0 0 → (∀ m2, lFR m m2 → lR m2 T n B1 [] (tup pP0 1 k) 0 → hX12_readGroup_74 f Ψ [1] k [4, 1] 2 [1] 1 hi m2) → wX12_readGroup f Ψ [1] m := by
        intro Ψ m h hK
        refine goR Ψ m h (fun m2 f2 l2 => ⟨fun _ => ⟨fun x => ?_, fun x => ?_⟩, fun x => absurd x k4⟩)
        · have := hK m2 f2 l2
          rwa [show hi = 12 by omega] at this
        · have := hK m2 f2 l2
          rwa [show hi = 6 by omega] at this
      -- a fault at the first number: the reference goes through
      have dead : ∀ (Ψ : aj_M → Prop) (m1 : aj_M) (z : Int), prD m1 → lDX Ψ m1 → (0 ≤ (2 : Int) ∧ (2 : Int) < 1105) ∧ ∀ m2, m2 = aj_u m1 [4, 1] (2 : Int).toNat z → rI k ∧ (¬ k = 2 → hX12_readGroup_105 f Ψ [1] k [4, 1] 4 (m2 [4, 1] (2 : Int).toNat) m2) ∧ (k = 2 → hX12_readGroup_105 f Ψ [1] k [4, 1] 4 (2 * (m2 [4, 1] (2 : Int).toNat)) m2) := by
        intro Ψ m1 z hD hX
        refine ⟨by decide, ?_⟩
        rintro _ rfl
        have d105 : ∀ y : Int, hX12_readGroup_105 f Ψ [1] k [4, 1] 4 y (aj_u m1 [4, 1] (2 : Int).toNat z) := by
          intro y
          refine ⟨by decide, ?_⟩
          rintro _ rfl
          have hD2 : prD (aj_u (aj_u m1 [4, 1] (2 : Int).toNat z) [4, 1] (4 : Int).toNat y) := prD_u (prD_u hD)
          have e := hX _ (lFR_4 (j := (4 : Int).toNat) (v := y) (lFR_4 (j := (2 : Int).toNat) (v := z) lFR_r)) (fun k a x => prX_u (prX_u x))
          exact ⟨⟨by omega, by omega⟩, fun _ => e, fun _ => ⟨hD2.1, fun x => absurd x hD2.2, fun _ => e⟩⟩
        exact ⟨⟨by omega, by omega⟩, fun _ => d105 _, fun _ => d105 _⟩
      by_cases g1 : tkK T n B1 = 23
      · have hN := tkN_b g1
        by_cases g2 : 1 ≤ tkN T n B1 ∧ tkN T n B1 ≤ hi
        · obtain ⟨hE3, hE4⟩ := tk_more (T := T) b1 (by omega)
          have b2 := hEb.2
          generalize eb2 : tkE T n B1 = B2 at hE3 b2 hEb
          generalize eu : tkN T n B1 = u at hN g2
          have hEc := tkE_b (T := T) b2
          have goC3 : ∀ (Φ : Int → aj_M → Prop) (m : aj_M), lC m T n b [] pP0 0 → (∀ m2, lFC m m2 → lC m2 T n B2 [] pP0 0 → rI (200 + k) ∧ (¬ 200 + k = 202 → rI (200 + k) ∧ (¬ 200 + k = 203 → wX0_makeProduct f (fun m3 => Φ 1 m3) [0, 3, 0, 0] u 1 m2) ∧ (200 + k = 203 → (0 < u ∧ u < 2147483648) ∧ wX7_takeNumber f (fun z3 m3 => rI z3 ∧ (1 ≤ z3 → wX0_makeProduct f (fun m4 => Φ 1 m4) [0, 3, 0, 0] u z3 m3) ∧ (¬ (1 ≤ z3) → Φ 0 m3)) [0, 0] 1 (12 / u) m2)) ∧ (200 + k = 202 → wX0_makeMirrors f (fun m5 => Φ 1 m5) [0, 3, 0, 0] u m2)) → wX7_readKind f Φ [0, 0] m := by
            intro Φ m h hK
            refine goC2 Φ m h (fun m2 f2 l2 => pc_num O b1 l2.1 (by decide) rhi (fun _ _ _ m3 f3 p3 => ?_) (fun _ x => absurd (by omega) x) (fun x => absurd g1 x))
            rw [eb2] at p3
            rw [eu]
            exact ⟨⟨by omega, by omega⟩, fun _ => hK m3 (lFC_t f2 (lFC_p f3)) (lC_s l2 f3 p3), fun x => by omega⟩
          have goR3 : ∀ (Ψ : aj_M → Prop) (m : aj_M), lR m T n b [] pP0 0 → (∀ m2, lFR m m2 → lR m2 T n B2 [] (tup (tup pP0 1 k) 2 u) 0 → (¬ k = 2 → hX12_readGroup_105 f Ψ [1] k [4, 1] 4 u m2) ∧ (k = 2 → hX12_readGroup_105 f Ψ [1] k [4, 1] 4 (2 * u) m2)) → wX12_readGroup f Ψ [1] m := by
            intro Ψ m h hK
            refine goR2 Ψ m h (fun m2 f2 l2 => pr_takes O b1 l2.1 (by decide) rhi (fun _ _ _ m3 f3 p3 => ⟨by decide, ?_⟩) (fun _ x => absurd (by omega) x) (fun x => absurd g1 x))
            rintro _ rfl
            rw [eb2] at p3
            have l3 := lR_u (k := 2) (v := u) (lR_s l2 f3 p3) (by omega)
            have hk := hK _ (lFR_4 (lFR_t f2 (lFR_p f3))) l3
            rw [eu, show (2 : Int).toNat = 2 from rfl, zu_tup, tup_s]
            exact ⟨⟨by omega, by omega⟩, hk.1, hk.2⟩
          by_cases k3 : k = 3
          · subst k3
            have hi12 : hi = 12 := by omega
            subst hi12
            have e12 : (1 ≤ 12 / u ∧ 12 / u ≤ 12) := by
              have h1 := Int.ediv_le_self (a := 12) u (by decide)
              have h2 : 1 ≤ 12 / u := (Int.le_ediv_iff_mul_le (by omega)).mpr (by omega)
              omega
            have goR4 : ∀ (Ψ : aj_M → Prop) (m : aj_M), lR m T n b [] pP0 0 → (∀ m2, lFR m m2 → lR m2 T n B2 [] (tup (tup (tup pP0 1 3) 2 u) 4 u) 0 → wX12_takes f (fun z1 m3 => ∀ m4, m4 = aj_u m3 [4, 1] (3 : Int).toNat z1 → ∀ m5, m5 = aj_u m4 [4, 1] (4 : Int).toNat ((m4 [4, 1] (2 : Int).toNat) * (m4 [4, 1] (3 : Int).toNat)) → Ψ m5) [1] 1 (12 / u) m2) → wX12_readGroup f Ψ [1] m := by
              intro Ψ m h hK
              refine goR3 Ψ m h (fun m2 f2 l2 => ⟨fun _ => ⟨by decide, ?_⟩, fun x => absurd x (by decide)⟩)
              rintro _ rfl
              have l3 := lR_u (k := 4) (v := u) l2 (by omega)
              have e2 : aj_u m2 [4, 1] (4 : Int).toNat u [4, 1] (2 : Int).toNat = u := by
                show aj_u m2 [4, 1] 4 u [4, 1] 2 = u
                rw [l3.2.1 2 (by omega), tup_o (by omega), tup_s]
              rw [e2]
              exact ⟨by decide, fun x => absurd rfl x, fun _ => ⟨by rw [show aj_u m2 [4, 1] (4 : Int).toNat u [1] 11 = 0 from l3.1.2.2.1]; decide, fun _ => ⟨⟨by omega, by omega⟩, hK _ (lFR_4 f2) l3⟩, fun x => absurd l3.1.2.2.1 x⟩⟩
            by_cases g3 : tkK T n B2 = 23
            · have hN2 := tkN_b g3
              by_cases g4 : 1 ≤ tkN T n B2 ∧ tkN T n B2 ≤ 12 / u
              · obtain ⟨hE5, hE6⟩ := tk_more (T := T) b2 (by omega)
                generalize ew : tkN T n B2 = w at hN2 g4
                have huw : u * w ≤ 12 := by
                  have h1 := (Int.le_ediv_iff_mul_le (c := u) (by omega)).mp g4.2
                  rw [Int.mul_comm]
                  exact h1
                have hgo3 : gOK 3 u w (u * w) := Or.inr (Or.inr (Or.inl ⟨rfl, by omega, by omega, huw, rfl⟩))
                have q1 : tup (tup (tup (tup (tup pP0 1 3) 2 u) 4 u) 3 w) 4 (u * w) 1 = 3 := by rw [tup_o (by omega), tup_o (by omega), tup_o (by omega), tup_o (by omega), tup_s]
                have q2 : tup (tup (tup (tup (tup pP0 1 3) 2 u) 4 u) 3 w) 4 (u * w) 2 = u := by rw [tup_o (by omega), tup_o (by omega), tup_o (by omega), tup_s]
                have q3 : tup (tup (tup (tup (tup pP0 1 3) 2 u) 4 u) 3 w) 4 (u * w) 3 = w := by rw [tup_o (by omega), tup_s]
                have q4 : tup (tup (tup (tup (tup pP0 1 3) 2 u) 4 u) 3 w) 4 (u * w) 4 = u * w := tup_s
                have eG : eqG (tup (tup (tup (tup (tup pP0 1 3) 2 u) 4 u) 3 w) 4 (u * w)) := fun j hj => by rw [tup_o (by omega), tup_o (by omega), tup_o (by omega), tup_o (by omega), tup_o (by omega)]
                refine ⟨.inl (tkE T n B2, [], tup (tup (tup (tup (tup pP0 1 3) 2 u) 4 u) 3 w) 4 (u * w), 0), ⟨by omega, hEc.2, rfl, rfl, lI_gr eG (by rw [q1, q2, q3, q4]; exact hgo3)⟩, fun Φ m h hΦ => goC3 Φ m h (fun m2 f2 l2 => ⟨by decide, fun _ => ⟨by decide, fun x => absurd rfl x, fun _ => ⟨⟨by omega, by omega⟩, ?_⟩⟩, fun x => absurd x (by decide)⟩), fun Ψ m h hΨ => goR4 Ψ m h (fun m2 f2 l2 => ?_)⟩
                · refine pc_num O b2 l2.1 (by decide) ⟨by omega, by omega⟩ (fun _ _ _ m3 f3 p3 => ?_) (fun _ x => absurd (by omega) x) (fun x => absurd g3 x)
                  rw [ew]
                  refine ⟨⟨by omega, by omega⟩, fun _ => ?_, fun x => by omega⟩
                  refine pX0_makeProduct (k := 3) (c := u) (d := w) (by omega) (by omega) (by omega) huw hgo3 (fun x y _ _ _ _ => gPr_3) (fun m4 z4 g4 => ?_)
                  obtain ⟨l4, f4⟩ := lC_gr (P := tup (tup (tup (tup (tup pP0 1 3) 2 u) 4 u) 3 w) 4 (u * w)) (lC_s l2 f3 p3) z4 (by rw [q1, q2, q3, q4]; exact g4) eG
                  exact hΦ m4 (lFC_t f2 (lFC_t (lFC_p f3) f4)) l4
                · refine pr_takes O b2 l2.1 (by decide) ⟨by omega, by omega⟩ (fun _ _ _ m3 f3 p3 => ?_) (fun _ x => absurd (by omega) x) (fun x => absurd g3 x)
                  rintro _ rfl
                  rintro _ rfl
                  rw [ew]
                  have l4 := lR_u (k := 3) (v := w) (lR_s l2 f3 p3) (by omega)
                  have e2 : aj_u m3 [4, 1] (3 : Int).toNat w [4, 1] (2 : Int).toNat = u := by
                    show aj_u m3 [4, 1] 3 w [4, 1] 2 = u
                    rw [l4.2.1 2 (by omega), tup_o (by omega), tup_o (by omega), tup_s]
                  have e3 : aj_u m3 [4, 1] (3 : Int).toNat w [4, 1] (3 : Int).toNat = w := by
                    show aj_u m3 [4, 1] 3 w [4, 1] 3 = w
                    rw [zu_tup, tup_s]
                  rw [e2, e3]
                  exact hΨ _ (lFR_4 (lFR_4 (lFR_t f2 (lFR_p f3)))) (lR_u l4 (by decide))
              · refine ⟨.inr (3, (tkA T n B2 : Nat)), ⟨by omega, tkA_g hn b2⟩, fun Φ m h hΦ => goC3 Φ m h (fun m2 f2 l2 => ⟨by decide, fun _ => ⟨by decide, fun x => absurd rfl x, fun _ => ⟨⟨by omega, by omega⟩, ?_⟩⟩, fun x => absurd x (by decide)⟩), fun Ψ m h hΨ => goR4 Ψ m h (fun m2 f2 l2 => ?_)⟩
                · exact pc_num O b2 l2.1 (by decide) ⟨by omega, by omega⟩ (fun _ x y => absurd ⟨x, y⟩ g4) (fun _ _ m3 f3 p3 => ⟨by decide, fun x => absurd x (by decide), fun _ => hΦ m3 (lFC_t f2 (lFC_p f3)) p3⟩) (fun x => absurd g3 x)
                · refine pr_takes O b2 l2.1 (by decide) ⟨by omega, by omega⟩ (fun _ x y => absurd ⟨x, y⟩ g4) (fun _ _ m3 z f3 p3 => ?_) (fun x => absurd g3 x)
                  rintro _ rfl
                  rintro _ rfl
                  exact hΨ _ (lFR_4 (lFR_4 (lFR_t f2 (lFR_p f3)))) (prX_u (prX_u p3))
            · refine ⟨.inr (tkF T n B2 2, (tkA T n B2 : Nat)), ⟨tkF_g (by omega), tkA_g hn b2⟩, fun Φ m h hΦ => goC3 Φ m h (fun m2 f2 l2 => ⟨by decide, fun _ => ⟨by decide, fun x => absurd rfl x, fun _ => ⟨⟨by omega, by omega⟩, ?_⟩⟩, fun x => absurd x (by decide)⟩), fun Ψ m h hΨ => goR4 Ψ m h (fun m2 f2 l2 => ?_)⟩
              · exact pc_num O b2 l2.1 (by decide) ⟨by omega, by omega⟩ (fun x => absurd x g3) (fun x => absurd x g3) (fun _ m3 f3 p3 => ⟨by decide, fun x => absurd x (by decide), fun _ => hΦ m3 (lFC_t f2 (lFC_p f3)) p3⟩)
              · refine pr_takes O b2 l2.1 (by decide) ⟨by omega, by omega⟩ (fun x => absurd x g3) (fun x => absurd x g3) (fun _ m3 z f3 p3 => ?_)
                rintro _ rfl
                rintro _ rfl
                exact hΨ _ (lFR_4 (lFR_4 (lFR_t f2 (lFR_p f3)))) (prX_u (prX_u p3))
          · -- cyclic or mirrors
            obtain ⟨sz, esz⟩ : ∃ sz : Int, (k = 2 ∧ sz = 2 * u) ∨ (k = 1 ∧ sz = u) := by
              by_cases x : k = 2
              · exact ⟨2 * u, Or.inl ⟨x, rfl⟩⟩
              · exact ⟨u, Or.inr ⟨by omega, rfl⟩⟩
            have q1 : tup (tup (tup pP0 1 k) 2 u) 4 sz 1 = k := by rw [tup_o (by omega), tup_o (by omega), tup_s]
            have q2 : tup (tup (tup pP0 1 k) 2 u) 4 sz 2 = u := by rw [tup_o (by omega), tup_s]
            have q3 : tup (tup (tup pP0 1 k) 2 u) 4 sz 3 = 0 := by rw [tup_o (by omega), tup_o (by omega), tup_o (by omega)]; exact pP0_z (by omega)
            have q4 : tup (tup (tup pP0 1 k) 2 u) 4 sz 4 = sz := tup_s
            have eG : eqG (tup (tup (tup pP0 1 k) 2 u) 4 sz) := fun j hj => by rw [tup_o (by omega), tup_o (by omega), tup_o (by omega)]
            have hgo : gOK k u 0 sz := by
              rcases esz with ⟨x, y⟩ | ⟨x, y⟩
              · exact Or.inr (Or.inl ⟨x, by omega, by omega, y⟩)
              · exact Or.inl ⟨x, by omega, by omega, y⟩
            refine ⟨.inl (B2, [], tup (tup (tup pP0 1 k) 2 u) 4 sz, 0), ⟨by omega, b2, rfl, rfl, lI_gr eG (by rw [q1, q2, q3, q4]; exact hgo)⟩, fun Φ m h hΦ => goC3 Φ m h (fun m2 f2 l2 => ⟨⟨by omega, by omega⟩, fun x => ⟨⟨by omega, by omega⟩, fun _ => ?_, fun y => by omega⟩, fun x => ?_⟩), fun Ψ m h hΨ => goR3 Ψ m h (fun m2 f2 l2 => ⟨fun x => ⟨by decide, ?_⟩, fun x => ⟨by decide, ?_⟩⟩)⟩
            · have hk1 : k = 1 ∧ sz = u := by omega
              refine pX0_makeProduct (k := 1) (c := u) (d := 0) (by omega) (by omega) (by omega) (by omega) (gPr_ok1 ⟨by omega, by omega⟩) (fun x y _ _ _ _ => gPr_1) (fun m4 z4 g4 => ?_)
              obtain ⟨l4, f4⟩ := lC_gr (P := tup (tup (tup pP0 1 k) 2 u) 4 sz) l2 z4 (by rw [q1, q2, q3, q4, hk1.1, hk1.2]; rw [Int.mul_one] at g4; exact g4) eG
              exact hΦ m4 (lFC_t f2 f4) l4
            · have hk1 : k = 2 ∧ sz = 2 * u := by omega
              refine pX0_makeMirrors (d := 0) (by omega) (by omega) (by omega) (fun m4 z4 g4 => ?_)
              obtain ⟨l4, f4⟩ := lC_gr (P := tup (tup (tup pP0 1 k) 2 u) 4 sz) l2 z4 (by rw [q1, q2, q3, q4, hk1.1, hk1.2]; exact g4) eG
              exact hΦ m4 (lFC_t f2 f4) l4
            · rintro _ rfl
              refine ⟨⟨by omega, by omega⟩, fun _ => ?_, fun y => absurd y k3⟩
              have := hΨ _ (lFR_4 f2) (lR_u (k := 4) (v := sz) l2 (by decide))
              rwa [show sz = u by omega] at this
            · rintro _ rfl
              refine ⟨⟨by omega, by omega⟩, fun _ => ?_, fun y => absurd y k3⟩
              have := hΨ _ (lFR_4 f2) (lR_u (k := 4) (v := sz) l2 (by decide))
              rwa [show sz = 2 * u by omega] at this
        · refine ⟨.inr (3, (tkA T n B1 : Nat)), ⟨by omega, tkA_g hn b1⟩, fun Φ m h hΦ => goC2 Φ m h (fun m2 f2 l2 => ?_), fun Ψ m h hΨ => goR2 Ψ m h (fun m2 f2 l2 => ?_)⟩
          · exact pc_num O b1 l2.1 (by decide) rhi (fun _ x y => absurd ⟨x, y⟩ g2) (fun _ _ m3 f3 p3 => ⟨by decide, fun x => absurd x (by decide), fun _ => hΦ m3 (lFC_t f2 (lFC_p f3)) p3⟩) (fun x => absurd g1 x)
          · exact pr_takes O b1 l2.1 (by decide) rhi (fun _ x y => absurd ⟨x, y⟩ g2) (fun _ _ m3 z f3 p3 => dead Ψ m3 z (prX_D p3 (by omega)) (fun m' f' x' => hΨ m' (lFR_t f2 (lFR_t (lFR_p f3) f')) (x' _ _ p3))) (fun x => absurd g1 x)
      · refine ⟨.inr (tkF T n B1 2, (tkA T n B1 : Nat)), ⟨tkF_g (by omega), tkA_g hn b1⟩, fun Φ m h hΦ => goC2 Φ m h (fun m2 f2 l2 => ?_), fun Ψ m h hΨ => goR2 Ψ m h (fun m2 f2 l2 => ?_)⟩
        · exact pc_num O b1 l2.1 (by decide) rhi (fun x => absurd x g1) (fun x => absurd x g1) (fun _ m3 f3 p3 => ⟨by decide, fun x => absurd x (by decide), fun _ => hΦ m3 (lFC_t f2 (lFC_p f3)) p3⟩)
        · exact pr_takes O b1 l2.1 (by decide) rhi (fun x => absurd x g1) (fun x => absurd x g1) (fun _ m3 z f3 p3 => dead Ψ m3 z (prX_D p3 (tkF_g (by omega))) (fun m' f' x' => hΨ m' (lFR_t f2 (lFR_t (lFR_p f3) f')) (x' _ _ p3)))
  · refine ⟨.inr (tkF T n b 2, (tkA T n b : Nat)), ⟨tkF_g (by omega), tkA_g hn hb⟩, fun Φ m h hΦ => ?_, fun Ψ m h hΨ => ?_⟩
    · have e := pc_7 h.1
      have cs : wX7_cantStand f (fun z1 m1 => (z1 = 0 ∨ z1 = 1) ∧ Φ z1 m1) [0, 0] m := pc_cant h.1 (fun m1 f1 p1 => ⟨Or.inl rfl, hΦ m1 (lFC_p f1) p1⟩)
      refine ⟨pc_r7 h.1, fun _ => cs, fun x => ⟨pc_r7 h.1, fun y => ?_, fun _ => cs⟩⟩
      rw [e] at x y
      exact absurd (c1.mp ⟨by omega, y⟩) g
    · have e9 : m [1] 9 = tkK T n b := h.1.1.2.2.1
      have r9 := pr_r9 h.1
      unfold wX12_readGroup
      rw [e9] at r9 ⊢
      refine ⟨r9, pX12_within ⟨by omega, by omega⟩ (by decide) (by decide) ?_⟩
      rw [if_neg g]
      refine zc0 (pr_fails h.1 (fun m1 f1 p1 => ?_))
      have hD := prX_D p1 (tkF_g (by omega))
      exact ⟨hD.1, fun x => absurd x hD.2, fun _ => hΨ m1 (lFR_p f1) p1⟩
end HDG
