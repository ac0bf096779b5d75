/-! BOTH MACHINES FOR LAWS -/
theorem zty_inv {cd : Nat → Int} {i n : Nat} {ts tz : List Bool} (h : zty cd i (n + 1) ts = some tz) : ∃ ts', ztc (cd i) ts = some ts' ∧ ts'.length ≤ 60 ∧ zty cd (i + 1) n ts' = some tz := by
  unfold zty at h
  cases hc : ztc (cd i) ts with
  | none => rw [hc] at h; cases h
  | some ts' =>
    rw [hc] at h
    simp only at h
    by_cases hl : ts'.length ≤ 60
    · rw [if_pos hl] at h; exact ⟨ts', rfl, hl, h⟩
    · rw [if_neg hl] at h; cases h
theorem zmt_1 {t : Bool} {s : List Int} (h : zmt [t] s) : ∃ v, s = [v] ∧ zv t v := by
  match s, h with
  | [v], h => exact ⟨v, rfl, h.1⟩
theorem zmt_c {t : Bool} {ts : List Bool} {s : List Int} (h : zmt (t :: ts) s) : ∃ v r, s = v :: r ∧ zv t v ∧ zmt ts r := by
  match s, h with
  | v :: r, h => exact ⟨v, r, rfl, h.1, h.2⟩
theorem cv_go {f : Nat} {Φ : Int → aj_M → Prop} {q q3 : List Nat} {m : aj_M} {w cd : Nat → Int} {e ar : Nat} {x t : Int} {ty : Bool} (har : ar < 12) (he : e ≤ 900) (hst : ∀ i, i < e → m (0 :: q) i = zenc (cd i)) (hw0 : (ar : Int) = w 0) (hw1 : m (7 :: q3) ar = w 1) (hw2 : m (8 :: q3) ar = w 2) (hw3 : x = w 3) (hw4 : t = w 4) (hwb : ∀ j, j < 5 → -1000000 ≤ w j ∧ w j ≤ 1000000) (hp7 : 7 :: q3 ≠ 6 :: q) (hp8 : 8 :: q3 ≠ 6 :: q) :
    ∀ (n k i : Nat) (s : List Int) (ts : List Bool) (S : Nat → Int), i + n = e → n < k → zty cd i n ts = some [ty] → zmt ts s → s.length ≤ 60 → zstk S s → (∀ (S' : Nat → Int) (v : Int), zrun w cd i n s = [v] → zv ty v → Φ v (aj_ur m (6 :: q) S')) → hX4_value_6 f Φ k q e q3 ar x t s.length i (aj_ur m (6 :: q) S) := by
  have r0 : ∀ S : Nat → Int, aj_ur m (6 :: q) S (0 :: q) = m (0 :: q) := fun S => by simp [zr_ur]
  have r6 : ∀ S : Nat → Int, aj_ur m (6 :: q) S (6 :: q) = S := fun S => by simp [zr_ur]
  have r7 : ∀ S : Nat → Int, aj_ur m (6 :: q) S (7 :: q3) = m (7 :: q3) := fun S => by rw [zr_ur, if_neg hp7]
  have r8 : ∀ S : Nat → Int, aj_ur m (6 :: q) S (8 :: q3) = m (8 :: q3) := fun S => by rw [zr_ur, if_neg hp8]
  intro n
  induction n with
  | zero =>
    intro k i s ts S hi hk hty hmt hsl hs hK
    obtain ⟨k, rfl⟩ : ∃ k', k = k' + 1 := ⟨k - 1, by omega⟩
    unfold zty at hty
    cases hty
    obtain ⟨v, rfl, hv⟩ := zmt_1 hmt
    unfold hX4_value_6
    refine ⟨⟨by omega, by omega⟩, ⟨by omega, by omega⟩, fun c => ⟨⟨by simp, by simp⟩, fun c2 => by simp at c2, fun c2 => ⟨by simp, ?_⟩⟩, fun c => by omega⟩
    rw [r6]
    have e0 : S (((([v] : List Int).length : Nat) : Int) - 1).toNat = v := hs.1
    rw [e0]
    exact hK S v rfl hv
  | succ n ih =>
    intro k i s ts S hi hk hty hmt hsl hs hK
    obtain ⟨k, rfl⟩ : ∃ k', k = k' + 1 := ⟨k - 1, by omega⟩
    obtain ⟨ts', hc, hl', hty'⟩ := zty_inv hty
    have hlen := zmt_len hmt
    unfold hX4_value_6
    simp only [r0, r6, r7, r8, Int.toNat_natCast]
    have hT := hst i (by omega)
    unfold zrun at hK
    rcases ztc_inv hc with ⟨c1, c2, rfl⟩ | ⟨c1, r, rfl, rfl⟩ | ⟨c1, r, rfl, rfl⟩ | ⟨b, b', r, rfl, rfl, hb⟩
    · -- an atom
      have hTr : m (0 :: q) i = if cd i < 1000 then 16 * cd i else cd i - 999 := by
        rw [hT]; unfold zenc
        by_cases h1 : cd i < 1000
        · rw [if_pos h1, if_pos h1]
        · rw [if_neg h1, if_neg h1, if_pos (by omega)]
      generalize hTT : m (0 :: q) i = T at hTr
      have hb : 0 ≤ T ∧ T < 20000 ∧ T % 16 ≤ 5 := by
        by_cases h1 : cd i < 1000
        · rw [if_pos h1] at hTr; omega
        · rw [if_neg h1] at hTr; omega
      have hs1 : zstep w (cd i) s = (if cd i < 1000 then cd i else w (cd i - 1000).toNat) :: s := by
        unfold zstep; rw [if_pos c2]
      rw [hs1] at hK
      simp only [List.length_cons] at hl'
      refine ⟨⟨by omega, by omega⟩, ⟨by omega, by omega⟩, fun k0 => by omega, fun _ => ⟨⟨by omega, by omega⟩, ⟨by omega, by omega⟩, ⟨by omega, by omega⟩, fun k5 => by omega, fun k5 => ⟨⟨by omega, by omega⟩, fun k6 => by omega, fun k6 => ⟨⟨by omega, by omega⟩, ⟨by omega, by omega⟩, ?_⟩⟩⟩⟩
      have hgo : ∀ z : Int, z = (if cd i < 1000 then cd i else w (cd i - 1000).toNat) → hX4_value_6 f Φ k q e q3 ar x t ((s.length : Int) + 1) ((i : Int) + 1) (aj_ur m (6 :: q) (st S s.length z)) := by
        rintro z rfl
        refine ih k (i + 1) ((if cd i < 1000 then cd i else w (cd i - 1000).toNat) :: s) (false :: ts) _ (by omega) (by omega) hty' ⟨⟨fun h => (by cases h), ?_⟩, hmt⟩ (by simp; omega) ⟨st_at, zstk_st (Nat.le_refl _) hs⟩ hK
        by_cases h1 : cd i < 1000
        · rw [if_pos h1]; omega
        · rw [if_neg h1]; exact hwb _ (by omega)
      have hgo2 : ∀ z : Int, z = (if cd i < 1000 then cd i else w (cd i - 1000).toNat) → (0 ≤ (s.length : Int) ∧ (s.length : Int) < 64) ∧ ∀ m7, m7 = aj_u (aj_ur m (6 :: q) S) (6 :: q) s.length z → hX4_value_6 f Φ k q e q3 ar x t ((s.length : Int) + 1) ((i : Int) + 1) m7 := by
        intro z hz
        refine ⟨⟨by omega, by omega⟩, ?_⟩
        rintro _ rfl
        rw [zu_same]
        exact hgo z hz
      unfold wX4_atom
      simp only [r7, r8, Int.toNat_natCast]
      refine ⟨⟨by omega, by omega⟩, fun k7 => hgo2 _ ?_, fun k7 => hgo2 _ ?_, fun k7 => ⟨⟨by omega, by omega⟩, hgo2 _ ?_⟩, fun k7 => ⟨⟨by omega, by omega⟩, hgo2 _ ?_⟩, fun k7 => hgo2 _ ?_, fun k7 => hgo2 _ ?_⟩
      · by_cases h1 : cd i < 1000
        · rw [if_pos h1] at hTr ⊢; omega
        · rw [if_neg h1] at hTr; omega
      · by_cases h1 : cd i < 1000
        · rw [if_pos h1] at hTr; omega
        · rw [if_neg h1] at hTr ⊢; rw [show (cd i - 1000).toNat = 0 by omega]; exact hw0
      · by_cases h1 : cd i < 1000
        · rw [if_pos h1] at hTr; omega
        · rw [if_neg h1] at hTr ⊢; rw [show (cd i - 1000).toNat = 1 by omega]; exact hw1
      · by_cases h1 : cd i < 1000
        · rw [if_pos h1] at hTr; omega
        · rw [if_neg h1] at hTr ⊢; rw [show (cd i - 1000).toNat = 2 by omega]; exact hw2
      · by_cases h1 : cd i < 1000
        · rw [if_pos h1] at hTr; omega
        · rw [if_neg h1] at hTr ⊢; rw [show (cd i - 1000).toNat = 3 by omega]; exact hw3
      · by_cases h1 : cd i < 1000
        · rw [if_pos h1] at hTr; omega
        · rw [if_neg h1] at hTr ⊢; rw [show (cd i - 1000).toNat = 4 by omega]; exact hw4
    · -- not
      obtain ⟨v, r', rfl, hv, hr⟩ := zmt_c hmt
      have hTT : m (0 :: q) i = 12 := by rw [hT, c1]; decide
      rw [hTT]
      have hs1 : zstep w (cd i) (v :: r') = (1 - v) :: r' := by
        unfold zstep; rw [if_neg (by omega), if_pos c1]
      rw [hs1] at hK
      simp only [List.length_cons] at hsl ⊢
      refine ⟨⟨by omega, by omega⟩, ⟨by omega, by omega⟩, fun k0 => by omega, fun _ => ⟨⟨by omega, by omega⟩, by decide, by decide, fun k5 => ⟨by decide, fun k6 => absurd rfl k6, fun k6 => ⟨⟨by omega, by omega⟩, fun k7 => by omega, fun k7 => ⟨⟨by omega, by omega⟩, ⟨by omega, by omega⟩, ?_⟩⟩⟩, fun k5 => absurd (by decide) k5⟩⟩
      rintro _ rfl
      rw [zu_same, show (((r'.length + 1 : Nat) : Int) - 1).toNat = r'.length by omega, hs.1]
      have hv1 := hv.1 rfl
      exact ih k (i + 1) ((1 - v) :: r') (true :: r) _ (by omega) (by omega) hty' ⟨⟨fun _ => by omega, by omega, by omega⟩, hr⟩ hsl ⟨st_at, zstk_st (Nat.le_refl _) hs.2⟩ hK
    · -- if
      obtain ⟨vz, r1, rfl, hvz, hr1⟩ := zmt_c hmt
      obtain ⟨vy, r2, rfl, hvy, hr2⟩ := zmt_c hr1
      obtain ⟨vx, r3, rfl, hvx, hr3⟩ := zmt_c hr2
      have hTT : m (0 :: q) i = 15 := by rw [hT, c1]; decide
      rw [hTT]
      have hs1 : zstep w (cd i) (vz :: vy :: vx :: r3) = (if vx = 1 then vy else vz) :: r3 := by
        unfold zstep; rw [if_neg (by omega), if_neg (by omega), if_pos c1]
      rw [hs1] at hK
      obtain ⟨s1, s2, s3, s4⟩ := hs
      simp only [List.length_cons] at hsl s1 s2 ⊢
      have hx1 := hvx.1 rfl
      have e1 : ((((r3.length + 1 + 1 + 1 : Nat) : Int) + (-2)) - 1).toNat = r3.length := by omega
      have e2 : (((r3.length + 1 + 1 + 1 : Nat) : Int) + (-2)).toNat = r3.length + 1 := by omega
      have e3 : ((((r3.length + 1 + 1 + 1 : Nat) : Int) + (-2)) + 1).toNat = r3.length + 1 + 1 := by omega
      simp only [e1, e2, e3, s1, s2, s3]
      have hgo : ∀ z : Int, z = (if vx = 1 then vy else vz) → ∀ m3, m3 = aj_u (aj_ur m (6 :: q) S) (6 :: q) r3.length z → hX4_value_6 f Φ k q e q3 ar x t (((r3.length + 1 + 1 + 1 : Nat) : Int) + (-2)) ((i : Int) + 1) m3 := by
        rintro z rfl _ rfl
        rw [zu_same, show (((r3.length + 1 + 1 + 1 : Nat) : Int) + (-2)) = ((r3.length + 1 : Nat) : Int) by omega]
        refine ih k (i + 1) ((if vx = 1 then vy else vz) :: r3) (false :: r) _ (by omega) (by omega) hty' ⟨⟨fun h => (by cases h), ?_⟩, hr3⟩ (by simp; omega) ⟨st_at, zstk_st (Nat.le_refl _) s4⟩ hK
        split
        · exact hvy.2
        · exact hvz.2
      refine ⟨⟨by omega, by omega⟩, ⟨by omega, by omega⟩, fun k0 => by omega, fun _ => ⟨⟨by omega, by omega⟩, by decide, by decide, fun k5 => ⟨by decide, fun k6 => ⟨by decide, fun k7 => absurd rfl k7, fun _ => ⟨⟨by omega, by omega⟩, fun k8 => by omega, fun k8 => ⟨⟨by omega, by omega⟩, ⟨by omega, by omega⟩, fun k9 => ⟨⟨by omega, by omega⟩, ⟨by omega, by omega⟩, hgo _ ?_⟩, fun k9 => ⟨⟨by omega, by omega⟩, ⟨by omega, by omega⟩, hgo _ ?_⟩⟩⟩⟩, fun k6 => absurd k6 (by decide)⟩, fun k5 => absurd (by decide) k5⟩⟩
      · rw [if_neg (by omega)]
      · rw [if_pos (by omega)]
    · -- two joined
      obtain ⟨vy, r1, rfl, hvy, hr1⟩ := zmt_c hmt
      obtain ⟨vx, r2, rfl, hvx, hr2⟩ := zmt_c hr1
      have hTT : m (0 :: q) i = cd i - 2994 := by rw [hT]; unfold zenc; rw [if_neg (by omega), if_neg (by omega)]
      rw [hTT]
      have hs1 : zstep w (cd i) (vy :: vx :: r2) = zOp (cd i) vx vy :: r2 := by
        unfold zstep; rw [if_neg (by omega), if_neg (by omega), if_neg (by omega)]
      rw [hs1] at hK
      obtain ⟨s1, s2, s3⟩ := hs
      simp only [List.length_cons] at hsl s1 ⊢
      have e1 : ((((r2.length + 1 + 1 : Nat) : Int) + (-1)) - 1).toNat = r2.length := by omega
      have e2 : (((r2.length + 1 + 1 : Nat) : Int) + (-1)).toNat = r2.length + 1 := by omega
      have e4 : (cd i - 2994) % 16 = cd i - 2994 := by omega
      simp only [e1, e2, e4, s1, s2]
      refine ⟨⟨by omega, by omega⟩, ⟨by omega, by omega⟩, fun k0 => by omega, fun _ => ⟨⟨by omega, by omega⟩, ⟨by omega, by omega⟩, ⟨by omega, by omega⟩, fun k5 => ⟨⟨by omega, by omega⟩, fun k6 => ⟨⟨by omega, by omega⟩, fun k7 => ⟨⟨by omega, by omega⟩, fun k8 => by omega, fun k8 => ⟨⟨by omega, by omega⟩, ⟨by omega, by omega⟩, ?_⟩⟩, fun k7 => by omega⟩, fun k6 => by omega⟩, fun k5 => by omega⟩⟩
      refine pX4_joined hvx hvy hb (fun z hz hzc => ⟨hz, ⟨by omega, by omega⟩, ⟨by omega, by omega⟩, ?_⟩)
      rintro _ rfl
      rw [zu_same, show max (-1000000) (min 1000000 z) = zOp (cd i) vx vy from hzc, show (((r2.length + 1 + 1 : Nat) : Int) + (-1)) = ((r2.length + 1 : Nat) : Int) by omega]
      exact ih k (i + 1) (zOp (cd i) vx vy :: r2) (b' :: r) _ (by omega) (by omega) hty' ⟨zOp_v hvx hvy hb, hr2⟩ (by simp; omega) ⟨st_at, zstk_st (Nat.le_refl _) s3⟩ hK
theorem rk_go {f : Nat} {Φ : Int → aj_M → Prop} {q : List Nat} {m : aj_M} {w cd : Nat → Int} {lw fr many : Nat} {ty : Bool} (hlw : lw < 2) (hfr : m (1 :: q) (9 + lw) = fr) (hmany : m (1 :: q) (11 + lw) = many) (hfm : fr + many ≤ 900) (hcd : ∀ i, fr ≤ i → i < fr + many → m (1 :: q) (205 + i) = cd i) (hw : ∀ j, j < 5 → m (17 :: q) j = w j) (hwb : ∀ j, j < 5 → -1000000 ≤ w j ∧ w j ≤ 1000000) :
    ∀ (n k i : Nat) (s : List Int) (ts : List Bool) (S : Nat → Int), i + n = many → n < k → zty cd (fr + i) n ts = some [ty] → zmt ts s → s.length ≤ 60 → zstk S s → (∀ (S' : Nat → Int) (v : Int), zrun w cd (fr + i) n s = [v] → zv ty v → Φ v (aj_ur m (16 :: q) S')) → hX12_reckons_4 f Φ k q lw s.length i (aj_ur m (16 :: q) S) := by
  have r1 : ∀ S : Nat → Int, aj_ur m (16 :: q) S (1 :: q) = m (1 :: q) := fun S => by simp [zr_ur]
  have r16 : ∀ S : Nat → Int, aj_ur m (16 :: q) S (16 :: q) = S := fun S => by simp [zr_ur]
  have r17 : ∀ S : Nat → Int, aj_ur m (16 :: q) S (17 :: q) = m (17 :: q) := fun S => by simp [zr_ur]
  have e11 : (11 + (lw : Int)).toNat = 11 + lw := by omega
  have e9 : (9 + (lw : Int)).toNat = 9 + lw := by omega
  intro n
  induction n with
  | zero =>
    intro k i s ts S hi hk hty hmt hsl hs hK
    obtain ⟨k, rfl⟩ : ∃ k', k = k' + 1 := ⟨k - 1, by omega⟩
    unfold zty at hty
    cases hty
    obtain ⟨v, rfl, hv⟩ := zmt_1 hmt
    unfold hX12_reckons_4
    simp only [r1, r16, e11, hmany]
    refine ⟨⟨by omega, by omega⟩, ⟨by omega, by omega⟩, ⟨by omega, by omega⟩, fun c => ?_, fun c => by omega⟩
    have e0 : S (0 : Int).toNat = v := hs.1
    rw [e0]
    exact hK S v rfl hv
  | succ n ih =>
    intro k i s ts S hi hk hty hmt hsl hs hK
    obtain ⟨k, rfl⟩ : ∃ k', k = k' + 1 := ⟨k - 1, by omega⟩
    obtain ⟨ts', hc, hl', hty'⟩ := zty_inv hty
    have hlen := zmt_len hmt
    have hT := hcd (fr + i) (by omega) (by omega)
    unfold hX12_reckons_4
    have e205 : (205 + (fr : Int) + (i : Int)).toNat = 205 + (fr + i) := by omega
    simp only [r1, r16, r17, e11, e9, hmany, hfr, e205, hT]
    unfold zrun at hK
    have hty'' : zty cd (fr + (i + 1)) n ts' = some [ty] := hty'
    refine ⟨⟨by omega, by omega⟩, ⟨by omega, by omega⟩, ⟨by omega, by omega⟩, fun k0 => by omega, fun _ => ⟨⟨by omega, by omega⟩, ⟨by omega, by omega⟩, ?_⟩⟩
    rcases ztc_inv hc with ⟨c1, c2, rfl⟩ | ⟨c1, r, rfl, rfl⟩ | ⟨c1, r, rfl, rfl⟩ | ⟨b, b', r, rfl, rfl, hb⟩
    · have hs1 : zstep w (cd (fr + i)) s = (if cd (fr + i) < 1000 then cd (fr + i) else w (cd (fr + i) - 1000).toNat) :: s := by
        unfold zstep; rw [if_pos c2]
      rw [hs1] at hK
      simp only [List.length_cons] at hl'
      have hgo : ∀ z : Int, z = (if cd (fr + i) < 1000 then cd (fr + i) else w (cd (fr + i) - 1000).toNat) → ∀ m7, m7 = aj_u (aj_ur m (16 :: q) S) (16 :: q) (s.length : Int).toNat z → hX12_reckons_4 f Φ k q lw ((s.length : Int) + 1) ((i : Int) + 1) m7 := by
        rintro z rfl _ rfl
        rw [zu_same, Int.toNat_natCast]
        refine ih k (i + 1) ((if cd (fr + i) < 1000 then cd (fr + i) else w (cd (fr + i) - 1000).toNat) :: s) (false :: ts) _ (by omega) (by omega) hty'' ⟨⟨fun h => (by cases h), ?_⟩, hmt⟩ (by simp; omega) ⟨st_at, zstk_st (Nat.le_refl _) hs⟩ hK
        by_cases h1 : cd (fr + i) < 1000
        · rw [if_pos h1]; omega
        · rw [if_neg h1]; exact hwb _ (by omega)
      refine ⟨⟨by omega, by omega⟩, fun k5 => by omega, fun k5 => ⟨⟨by omega, by omega⟩, fun k6 => ⟨⟨by omega, by omega⟩, ⟨by omega, by omega⟩, hgo _ ?_⟩, fun k6 => ⟨⟨by omega, by omega⟩, hgo _ ?_⟩⟩⟩
      · rw [if_neg (by omega)]; exact hw _ (by omega)
      · rw [if_pos (by omega)]
    · obtain ⟨v, r', rfl, hv, hr⟩ := zmt_c hmt
      rw [c1]
      have hs1 : zstep w (cd (fr + i)) (v :: r') = (1 - v) :: r' := by
        unfold zstep; rw [if_neg (by omega), if_pos c1]
      rw [hs1] at hK
      simp only [List.length_cons] at hsl ⊢
      refine ⟨by decide, fun k5 => ⟨by decide, fun k6 => absurd trivial k6, fun _ => ⟨⟨by omega, by omega⟩, ⟨by omega, by omega⟩, ?_⟩⟩, fun k5 => absurd (by decide) k5⟩
      rintro _ rfl
      rw [zu_same, show (((r'.length + 1 : Nat) : Int) - 1).toNat = r'.length by omega, hs.1]
      have hv1 := hv.1 rfl
      exact ih k (i + 1) ((1 - v) :: r') (true :: r) _ (by omega) (by omega) hty'' ⟨⟨fun _ => by omega, by omega, by omega⟩, hr⟩ hsl ⟨st_at, zstk_st (Nat.le_refl _) hs.2⟩ hK
    · obtain ⟨vz, r1', rfl, hvz, hr1⟩ := zmt_c hmt
      obtain ⟨vy, r2, rfl, hvy, hr2⟩ := zmt_c hr1
      obtain ⟨vx, r3, rfl, hvx, hr3⟩ := zmt_c hr2
      rw [c1]
      have hs1 : zstep w (cd (fr + i)) (vz :: vy :: vx :: r3) = (if vx = 1 then vy else vz) :: r3 := by
        unfold zstep; rw [if_neg (by omega), if_neg (by omega), if_pos c1]
      rw [hs1] at hK
      obtain ⟨s1, s2, s3, s4⟩ := hs
      simp only [List.length_cons] at hsl s1 s2 ⊢
      have hx1 := hvx.1 rfl
      have e1 : ((((r3.length + 1 + 1 + 1 : Nat) : Int) + (-2)) - 1).toNat = r3.length := by omega
      have e2 : (((r3.length + 1 + 1 + 1 : Nat) : Int) + (-2)).toNat = r3.length + 1 := by omega
      have e3 : ((((r3.length + 1 + 1 + 1 : Nat) : Int) + (-2)) + 1).toNat = r3.length + 1 + 1 := by omega
      simp only [e1, e2, e3, s1, s2, s3]
      have hgo : ∀ z : Int, z = (if vx = 1 then vy else vz) → ∀ m3, m3 = aj_u (aj_ur m (16 :: q) S) (16 :: q) r3.length z → hX12_reckons_4 f Φ k q lw (((r3.length + 1 + 1 + 1 : Nat) : Int) + (-2)) ((i : Int) + 1) m3 := by
        rintro z rfl _ rfl
        rw [zu_same, show (((r3.length + 1 + 1 + 1 : Nat) : Int) + (-2)) = ((r3.length + 1 : Nat) : Int) by omega]
        refine ih k (i + 1) ((if vx = 1 then vy else vz) :: r3) (false :: r) _ (by omega) (by omega) hty'' ⟨⟨fun h => (by cases h), ?_⟩, hr3⟩ (by simp; omega) ⟨st_at, zstk_st (Nat.le_refl _) s4⟩ hK
        split
        · exact hvy.2
        · exact hvz.2
      refine ⟨by decide, fun k5 => ⟨by decide, fun k6 => ⟨by decide, fun k7 => absurd trivial k7, fun _ => ⟨⟨by omega, by omega⟩, ⟨by omega, by omega⟩, fun k9 => ⟨⟨by omega, by omega⟩, ⟨by omega, by omega⟩, hgo _ ?_⟩, fun k9 => ⟨⟨by omega, by omega⟩, ⟨by omega, by omega⟩, hgo _ ?_⟩⟩⟩, fun k6 => absurd k6 (by decide)⟩, fun k5 => absurd (by decide) k5⟩
      · rw [if_neg (by omega)]
      · rw [if_pos (by omega)]
    · obtain ⟨vy, r1', rfl, hvy, hr1⟩ := zmt_c hmt
      obtain ⟨vx, r2, rfl, hvx, hr2⟩ := zmt_c hr1
      have hs1 : zstep w (cd (fr + i)) (vy :: vx :: r2) = zOp (cd (fr + i)) vx vy :: r2 := by
        unfold zstep; rw [if_neg (by omega), if_neg (by omega), if_neg (by omega)]
      rw [hs1] at hK
      obtain ⟨s1, s2, s3⟩ := hs
      simp only [List.length_cons] at hsl s1 ⊢
      have e1 : ((((r2.length + 1 + 1 : Nat) : Int) + (-1)) - 1).toNat = r2.length := by omega
      have e2 : (((r2.length + 1 + 1 : Nat) : Int) + (-1)).toNat = r2.length + 1 := by omega
      simp only [e1, e2, s1, s2]
      refine ⟨⟨by omega, by omega⟩, fun k5 => ⟨⟨by omega, by omega⟩, fun k6 => ⟨⟨by omega, by omega⟩, fun k7 => ⟨⟨by omega, by omega⟩, ⟨by omega, by omega⟩, ?_⟩, fun k7 => by omega⟩, fun k6 => by omega⟩, fun k5 => by omega⟩
      refine pX12_between hvx hvy hb ⟨⟨by omega, by omega⟩, ?_⟩
      rintro _ rfl
      rw [zu_same, show (((r2.length + 1 + 1 : Nat) : Int) + (-1)) = ((r2.length + 1 : Nat) : Int) by omega]
      exact ih k (i + 1) (zOp (cd (fr + i)) vx vy :: r2) (b' :: r) _ (by omega) (by omega) hty'' ⟨zOp_v hvx hvy hb, hr2⟩ (by simp; omega) ⟨st_at, zstk_st (Nat.le_refl _) s3⟩ hK
