/-! THE ENDS OF LINKS, SORTED BY NODES -/
def zb (L : Nat) (a b : Nat → Nat) : Nat → Nat
  | 0 => 0
  | n + 1 => zb L a b n + zdeg L a b n
theorem zdeg_succ {L : Nat} {a b : Nat → Nat} {n : Nat} : zdeg (L + 1) a b n = zdeg L a b n + (if a L = n then 1 else 0) + (if b L = n then 1 else 0) := by
  unfold zdeg
  show zcnt _ L + (if decide (a L = n) = true then 1 else 0) + (zcnt _ L + (if decide (b L = n) = true then 1 else 0)) = _
  simp only [decide_eq_true_eq]
  omega
theorem zdeg_mono {L l : Nat} {a b : Nat → Nat} {n : Nat} (h : l ≤ L) : zdeg l a b n ≤ zdeg L a b n := Nat.add_le_add (zcnt_mono h) (zcnt_mono h)
theorem zb_succ {L : Nat} {a b : Nat → Nat} : ∀ N, zb (L + 1) a b N = zb L a b N + (if a L < N then 1 else 0) + (if b L < N then 1 else 0)
  | 0 => rfl
  | N + 1 => by
    show zb (L + 1) a b N + zdeg (L + 1) a b N = zb L a b N + zdeg L a b N + _ + _
    rw [zb_succ N, zdeg_succ]
    have e1 : ∀ y : Nat, (if y < N + 1 then 1 else 0) = (if y < N then 1 else 0) + (if y = N then 1 else 0) := by
      intro y
      by_cases h : y < N
      · rw [if_pos (by omega), if_pos h, if_neg (by omega)]
      · by_cases h2 : y = N
        · rw [if_pos (by omega), if_neg h, if_pos h2]
        · rw [if_neg (by omega), if_neg h, if_neg h2]
    rw [e1 (a L), e1 (b L)]
    omega
theorem zb_le {a b : Nat → Nat} {N : Nat} : ∀ L, zb L a b N ≤ 2 * L
  | 0 => by
    have : ∀ n, zb 0 a b n = 0 := by
      intro n
      induction n with
      | zero => rfl
      | succ n ih => show zb 0 a b n + zdeg 0 a b n = 0; rw [ih]; rfl
    rw [this]; omega
  | L + 1 => by
    rw [zb_succ]
    have := zb_le (a := a) (b := b) (N := N) L
    split <;> split <;> omega
theorem zb_mono {L : Nat} {a b : Nat → Nat} {n k : Nat} (h : n ≤ k) : zb L a b n ≤ zb L a b k := by
  induction k with
  | zero => rw [show n = 0 by omega]; exact Nat.le_refl _
  | succ k ih =>
    by_cases e : n = k + 1
    · subst e; exact Nat.le_refl _
    · have := ih (by omega)
      show _ ≤ zb L a b k + _
      omega
/-- what has been laid: c ends at each node -/
def zSI (N L : Nat) (a b : Nat → Nat) (l : Nat) (c : Nat → Nat) (E : Nat → Int) : Prop :=
  (∀ n, n < N → c n ≤ zdeg L a b n) ∧
  (∀ n i, n < N → i < c n → ∃ j : Nat, j < l ∧ E (zb L a b n + i) = j ∧ (a j = n ∨ b j = n)) ∧
  (∀ n i i', n < N → i < i' → i' < c n → E (zb L a b n + i) < E (zb L a b n + i') ∨ (E (zb L a b n + i) = E (zb L a b n + i') ∧ a (E (zb L a b n + i)).toNat = n ∧ b (E (zb L a b n + i)).toNat = n))
theorem zSI_off {L : Nat} {a b : Nat → Nat} {n n' i k : Nat} (hk : k < zdeg L a b n) (hi : i < zdeg L a b n') (h : n ≠ n') : zb L a b n + k ≠ zb L a b n' + i := by
  rcases Nat.lt_or_ge n n' with h1 | h1
  · have := zb_mono (L := L) (a := a) (b := b) (show n + 1 ≤ n' by omega)
    have e : zb L a b (n + 1) = zb L a b n + zdeg L a b n := rfl
    omega
  · have := zb_mono (L := L) (a := a) (b := b) (show n' + 1 ≤ n by omega)
    have e : zb L a b (n' + 1) = zb L a b n' + zdeg L a b n' := rfl
    omega
theorem zSI_step {N L : Nat} {a b : Nat → Nat} {l : Nat} {c : Nat → Nat} {E : Nat → Int} (H : zSI N L a b (l + 1) c E) {n : Nat} (hn : n < N) (hc : c n < zdeg L a b n) (hl : a l = n ∨ b l = n) (hlast : ∀ i, i < c n → E (zb L a b n + i) = (l : Int) → a l = n ∧ b l = n) : zSI N L a b (l + 1) (sn c n (c n + 1)) (st E (zb L a b n + c n) l) := by
  obtain ⟨h1, h2, h3⟩ := H
  have keep : ∀ n' i, n' < N → i < c n' → st E (zb L a b n + c n) l (zb L a b n' + i) = E (zb L a b n' + i) := by
    intro n' i hn' hi
    refine st_ne ?_
    by_cases e : n' = n
    · subst e; omega
    · exact Ne.symm (zSI_off hc (Nat.lt_of_lt_of_le hi (h1 n' hn')) (Ne.symm e))
  refine ⟨fun n' hn' => ?_, fun n' i hn' hi => ?_, fun n' i i' hn' hi hi' => ?_⟩
  · by_cases e : n' = n
    · subst e; rw [sn_at]; omega
    · rw [sn_ne e]; exact h1 n' hn'
  · by_cases e : n' = n
    · subst e
      rw [sn_at] at hi
      by_cases e2 : i = c n'
      · subst e2; exact ⟨l, by omega, st_at, hl⟩
      · rw [keep n' i hn' (by omega)]; exact h2 n' i hn' (by omega)
    · rw [sn_ne e] at hi
      rw [keep n' i hn' hi]; exact h2 n' i hn' hi
  · by_cases e : n' = n
    · subst e
      rw [sn_at] at hi'
      rw [keep n' i hn' (by omega)]
      by_cases e2 : i' = c n'
      · subst e2
        rw [st_at]
        obtain ⟨j, hj, hj2, hj3⟩ := h2 n' i hn' hi
        by_cases e3 : j = l
        · subst e3
          have := hlast i hi hj2
          right
          refine ⟨hj2, ?_, ?_⟩
          · rw [hj2, Int.toNat_natCast]; exact this.1
          · rw [hj2, Int.toNat_natCast]; exact this.2
        · left; rw [hj2]; omega
      · rw [keep n' i' hn' (by omega)]; exact h3 n' i i' hn' hi (by omega)
    · rw [sn_ne e] at hi'
      rw [keep n' i hn' (by omega), keep n' i' hn' hi']
      exact h3 n' i i' hn' hi hi'
def zSB (N L : Nat) (a b : Nat → Nat) (l : Nat) (c : Nat → Nat) (E : Nat → Int) : Prop := ∀ j n, j < l → n < N → (a j = n ∨ b j = n) → ∃ i, i < c n ∧ E (zb L a b n + i) = j
def nS (m : aj_M) (q : List Nat) (S E : Nat → Int) : aj_M := aj_ur (aj_ur m (8 :: q) S) (9 :: q) E
theorem nS_r {m : aj_M} {q : List Nat} {S E : Nat → Int} : nS m q S E q = m q ∧ nS m q S E (2 :: q) = m (2 :: q) ∧ nS m q S E (3 :: q) = m (3 :: q) ∧ nS m q S E (8 :: q) = S ∧ nS m q S E (9 :: q) = E := by simp [nS, zr_ur]
theorem nS_off {m : aj_M} {q p : List Nat} {S E : Nat → Int} (h8 : p ≠ 8 :: q) (h9 : p ≠ 9 :: q) : nS m q S E p = m p := by simp [nS, zr_ur, h8, h9]
theorem nS_w8 {m : aj_M} {q : List Nat} {S E : Nat → Int} {j : Nat} {x : Int} : aj_u (nS m q S E) (8 :: q) j x = nS m q (st S j x) E := by simp [nS, zu_push]
theorem nS_w9 {m : aj_M} {q : List Nat} {S E : Nat → Int} {j : Nat} {x : Int} : aj_u (nS m q S E) (9 :: q) j x = nS m q S (st E j x) := by simp [nS, zu_push]
theorem pX5_sortEnds {f : Nat} {Φ : aj_M → Prop} {q : List Nat} {m : aj_M} {N L : Nat} {a b : Nat → Nat} (g0 : m q 0 = N) (g1 : m q 1 = L) (gN1 : 1 ≤ N) (gN : N ≤ 60) (gL : L ≤ 144) (gab : ∀ l, l < L → a l < N ∧ b l < N) (g2 : ∀ l, l < L → m (2 :: q) l = a l ∧ m (3 :: q) l = b l) (hf : 300 ≤ f)
    (hK : ∀ (S E : Nat → Int) (s e : Nat → Nat), nC (nS m q S E) q N L a b s e → Φ (nS m q S E)) : wX5_sortEnds f Φ q m := by
  have hz : ∀ n, n ≤ N → zb L a b n ≤ 288 := fun n hn => by have := zb_mono (L := L) (a := a) (b := b) hn; have := zb_le (a := a) (b := b) (N := N) L; omega
  have hdz : ∀ n, n < N → zdeg L a b n ≤ 288 := fun n hn => by
    have := hz (n + 1) (by omega)
    have e : zb L a b (n + 1) = zb L a b n + zdeg L a b n := rfl
    omega
  -- the laying
  have lay : ∀ (k l : Nat) (S E : Nat → Int), l ≤ L → L - l < k → (∀ n, n < N → S (n + 1) = (zb L a b n + zdeg l a b n : Nat)) → S 0 = 0 → zSI N L a b l (zdeg l a b) E → zSB N L a b l (zdeg l a b) E → hX5_sortEnds_95 f Φ k q l (nS m q S E) := by
    intro k
    induction k with
    | zero => intro l S E h1 h2; omega
    | succ k ih =>
      intro l S E h1 h2 hS hS0 HI HB
      unfold hX5_sortEnds_95
      simp only [nS_r, g1, Int.toNat_natCast]
      refine ⟨⟨by omega, by omega⟩, ⟨by omega, by omega⟩, fun c => ?_, fun c => ?_⟩
      · have e : l = L := by omega
        subst e
        refine hK S E (zb l a b) (fun k => (E k).toNat) ⟨by rw [nS_r.1, g0], by rw [nS_r.1, g1], gN1, gN, gL, ⟨gab, ?_, ?_, ?_, ?_, fun n _ => rfl⟩, ?_, ?_, ?_⟩
        · intro n hn
          exact ⟨zb_mono (by omega), hz (n + 1) (by omega)⟩
        · intro n k hn hk1 hk2
          have e : zb l a b (n + 1) = zb l a b n + zdeg l a b n := rfl
          obtain ⟨j, hj, hj2, hj3⟩ := HI.2.1 n (k - zb l a b n) hn (by omega)
          rw [show zb l a b n + (k - zb l a b n) = k by omega] at hj2
          show (E k).toNat < l ∧ (a (E k).toNat = n ∨ b (E k).toNat = n)
          rw [hj2, Int.toNat_natCast]
          exact ⟨hj, hj3⟩
        · intro j u v hj
          obtain ⟨i, hi, hi2⟩ := HB j u hj.1 hj.2.1 (by have := hj.2.2.2; omega)
          have e : zb l a b (u + 1) = zb l a b u + zdeg l a b u := rfl
          refine ⟨zb l a b u + i, by omega, by omega, ?_⟩
          show (E (zb l a b u + i)).toNat = j
          rw [hi2, Int.toNat_natCast]
        · intro n k k' hn hk hkk hk'
          have e : zb l a b (n + 1) = zb l a b n + zdeg l a b n := rfl
          have h5 := HI.2.2 n (k - zb l a b n) (k' - zb l a b n) hn (by omega) (by omega)
          rw [show zb l a b n + (k - zb l a b n) = k by omega, show zb l a b n + (k' - zb l a b n) = k' by omega] at h5
          obtain ⟨j, hj, hj2, hj3⟩ := HI.2.1 n (k - zb l a b n) hn (by omega)
          obtain ⟨j', hj', hj2', hj3'⟩ := HI.2.1 n (k' - zb l a b n) hn (by omega)
          rw [show zb l a b n + (k - zb l a b n) = k by omega] at hj2
          rw [show zb l a b n + (k' - zb l a b n) = k' by omega] at hj2'
          show (E k).toNat < (E k').toNat ∨ (E k).toNat = (E k').toNat ∧ _
          rcases h5 with h5 | h5
          · left; rw [hj2, hj2'] at h5 ⊢; omega
          · right; exact ⟨by rw [h5.1], h5.2⟩
        · intro j hj
          rw [nS_r.2.1, nS_r.2.2.1]; exact g2 j hj
        · intro n hn
          rw [nS_r.2.2.2.1]
          by_cases e0 : n = 0
          · subst e0; rw [hS0]; rfl
          · have h6 := hS (n - 1) (by omega)
            rw [show n - 1 + 1 = n by omega] at h6
            rw [h6]
            have e : zb l a b (n - 1 + 1) = zb l a b (n - 1) + zdeg l a b (n - 1) := rfl
            rw [show n - 1 + 1 = n by omega] at e
            rw [← e]
        · intro n k hn hk1 hk2
          rw [nS_r.2.2.2.2]
          have e : zb l a b (n + 1) = zb l a b n + zdeg l a b n := rfl
          obtain ⟨j, hj, hj2, hj3⟩ := HI.2.1 n (k - zb l a b n) hn (by omega)
          rw [show zb l a b n + (k - zb l a b n) = k by omega] at hj2
          show E k = (((E k).toNat : Nat) : Int)
          omega
      · have hl : l < L := by omega
        have hab := gab l hl
        have h2' := g2 l hl
        have hca : zdeg l a b (a l) < zdeg L a b (a l) := by
          have := zdeg_mono (a := a) (b := b) (n := a l) (show l + 1 ≤ L by omega)
          rw [zdeg_succ, if_pos rfl] at this
          omega
        have hz1 := hz (a l + 1) (by omega)
        have ez1 : zb L a b (a l + 1) = zb L a b (a l) + zdeg L a b (a l) := rfl
        have hz2 := hz (b l + 1) (by omega)
        have ez2 : zb L a b (b l + 1) = zb L a b (b l) + zdeg L a b (b l) := rfl
        have HI0 : zSI N L a b (l + 1) (zdeg l a b) E := ⟨HI.1, fun n i hn hi => by obtain ⟨j, h1, h2⟩ := HI.2.1 n i hn hi; exact ⟨j, by omega, h2⟩, HI.2.2⟩
        have HI1 := zSI_step HI0 hab.1 hca (Or.inl rfl) (fun i hi e => by
          obtain ⟨j, h1, h2, _⟩ := HI.2.1 (a l) i hab.1 hi
          rw [e] at h2; omega)
        generalize hE1 : st E (zb L a b (a l) + zdeg l a b (a l)) (l : Int) = E1 at HI1
        generalize hc1 : sn (zdeg l a b) (a l) (zdeg l a b (a l) + 1) = c1 at HI1
        have hcb : c1 (b l) + 1 = zdeg (l + 1) a b (b l) := by
          rw [← hc1, zdeg_succ, if_pos (rfl : b l = b l)]
          by_cases e : b l = a l
          · rw [e, sn_at, if_pos rfl]
          · rw [sn_ne e, if_neg (Ne.symm e)]
        have hcb2 : c1 (b l) < zdeg L a b (b l) := by
          have := zdeg_mono (a := a) (b := b) (n := b l) (show l + 1 ≤ L by omega)
          omega
        have keep1 : ∀ n i, n < N → i < zdeg l a b n → E1 (zb L a b n + i) = E (zb L a b n + i) := by
          intro n i hn hi
          rw [← hE1]
          refine st_ne ?_
          by_cases e : n = a l
          · subst e; omega
          · exact Ne.symm (zSI_off hca (Nat.lt_of_lt_of_le hi (HI.1 n hn)) (Ne.symm e))
        have HI2 := zSI_step HI1 hab.2 hcb2 (Or.inr rfl) (fun i hi e => by
          by_cases eb : b l = a l
          · exact ⟨eb.symm, rfl⟩
          · exfalso
            rw [← hc1, sn_ne eb] at hi
            rw [keep1 (b l) i hab.2 hi] at e
            obtain ⟨j, h1, h2, _⟩ := HI.2.1 (b l) i hab.2 hi
            rw [e] at h2; omega)
        have ec2 : sn c1 (b l) (c1 (b l) + 1) = zdeg (l + 1) a b := by
          funext n
          by_cases e : n = b l
          · subst e; rw [sn_at, hcb]
          · rw [sn_ne e, ← hc1, zdeg_succ, if_neg (Ne.symm e)]
            by_cases e2 : n = a l
            · subst e2; rw [sn_at, if_pos rfl]
            · rw [sn_ne e2, if_neg (Ne.symm e2)]; rfl
        have keep2 : ∀ n i, n < N → i < c1 n → st E1 (zb L a b (b l) + c1 (b l)) (l : Int) (zb L a b n + i) = E1 (zb L a b n + i) := by
          intro n i hn hi
          refine st_ne ?_
          by_cases e : n = b l
          · subst e; omega
          · exact Ne.symm (zSI_off hcb2 (Nat.lt_of_lt_of_le hi (HI1.1 n hn)) (Ne.symm e))
        have hle : ∀ n, zdeg l a b n ≤ c1 n := by
          intro n
          rw [← hc1]
          by_cases e : n = a l
          · subst e; rw [sn_at]; omega
          · rw [sn_ne e]; exact Nat.le_refl _
        have HB2 : zSB N L a b (l + 1) (sn c1 (b l) (c1 (b l) + 1)) (st E1 (zb L a b (b l) + c1 (b l)) (l : Int)) := by
          intro j n hj hn hjn
          have hle2 : c1 n ≤ sn c1 (b l) (c1 (b l) + 1) n := by
            by_cases e : n = b l
            · subst e; rw [sn_at]; omega
            · rw [sn_ne e]; exact Nat.le_refl _
          by_cases e : j = l
          · subst e
            by_cases e2 : b j = n
            · subst e2
              exact ⟨c1 (b j), by rw [sn_at]; omega, st_at⟩
            · have e3 : a j = n := by omega
              subst e3
              refine ⟨zdeg j a b (a j), ?_, ?_⟩
              · rw [sn_ne (Ne.symm e2), ← hc1, sn_at]; omega
              · rw [keep2 _ _ hn (by rw [← hc1, sn_at]; omega), ← hE1, st_at]
          · obtain ⟨i, hi, hi2⟩ := HB j n (by omega) hn hjn
            have := hle n
            exact ⟨i, by omega, by rw [keep2 n i hn (by omega), keep1 n i hn hi, hi2]⟩
        rw [ec2] at HI2 HB2
        have hSa := hS (a l) hab.1
        simp only [h2'.1, h2'.2, zt1, hSa, Int.toNat_natCast]
        refine ⟨⟨by omega, by omega⟩, ⟨by omega, by omega⟩, ⟨by omega, by omega⟩, ?_⟩
        rintro _ rfl
        simp only [nS_w9, nS_r, h2'.1, h2'.2, zt1, hSa, Int.toNat_natCast]
        refine ⟨⟨by omega, by omega⟩, ⟨by omega, by omega⟩, ⟨by omega, by omega⟩, ?_⟩
        rintro _ rfl
        rw [nS_w8]
        have hS1 : ∀ n, n < N → st S (a l + 1) (((zb L a b (a l) + zdeg l a b (a l) : Nat) : Int) + 1) (n + 1) = (zb L a b n + c1 n : Nat) := by
          intro n hn
          rw [← hc1]
          by_cases e : n = a l
          · subst e; rw [st_at, sn_at]; omega
          · rw [st_ne (by omega), sn_ne e]; exact hS n hn
        have hSb := hS1 (b l) hab.2
        simp only [nS_r, h2'.1, h2'.2, zt1, hSb, Int.toNat_natCast]
        refine ⟨⟨by omega, by omega⟩, ⟨by omega, by omega⟩, ⟨by omega, by omega⟩, ?_⟩
        rintro _ rfl
        simp only [nS_w9, nS_r, h2'.1, h2'.2, zt1, hSb, Int.toNat_natCast]
        refine ⟨⟨by omega, by omega⟩, ⟨by omega, by omega⟩, ⟨by omega, by omega⟩, ?_⟩
        rintro _ rfl
        rw [nS_w8, hE1]
        refine ih (l + 1) _ _ (by omega) (by omega) ?_ ?_ HI2 HB2
        · intro n hn
          rw [← ec2]
          by_cases e : n = b l
          · subst e; rw [st_at, sn_at]; omega
          · rw [st_ne (by omega), sn_ne e]; exact hS1 n hn
        · rw [st_ne (by omega), st_ne (by omega)]; exact hS0
  unfold wX5_sortEnds
  refine pJ7_fill (by omega) (by decide) ?_
  have e0 : aj_ur m (8 :: q) (fun k => if k < 62 then 0 else m (8 :: q) k) = nS m q (fun k => if k < 62 then 0 else m (8 :: q) k) (m (9 :: q)) := by
    funext p k
    simp only [nS, aj_ur]
    grind
  rw [e0]
  -- the counting
  refine zfor (H := fun k i s => hX5_sortEnds_10 f Φ k q i s) (N := L) (fun i s => ∃ S : Nat → Int, s = nS m q S (m (9 :: q)) ∧ S 0 = 0 ∧ S 1 = 0 ∧ ∀ n, n < N → S (n + 2) = zdeg i a b n) ?_ f 0 _ (by omega) (by omega) ⟨_, rfl, rfl, rfl, fun n hn => by rw [if_pos (by omega)]; rfl⟩
  rintro k i s hi ⟨S, rfl, hS0, hS1, hS⟩ hs
  unfold hX5_sortEnds_10
  simp only [nS_r, g1, Int.toNat_natCast]
  refine ⟨⟨by omega, by omega⟩, ⟨by omega, by omega⟩, fun c => ?_, fun c => ?_⟩
  · -- the sums
    have ei : i = L := by omega
    subst ei
    refine zfor (H := fun k j s => hX5_sortEnds_60 f Φ k q j s) (N := N + 2) (fun j s => 2 ≤ j ∧ ∃ S' : Nat → Int, s = nS m q S' (m (9 :: q)) ∧ S' 0 = 0 ∧ (∀ n, n + 1 < j → S' (n + 1) = zb i a b n) ∧ ∀ n, n < N → j ≤ n + 2 → S' (n + 2) = zdeg i a b n) ?_ f 2 _ (by omega) (by omega) ⟨by omega, S, rfl, hS0, fun n hn => by rw [show n = 0 by omega, hS1]; rfl, fun n hn _ => hS n hn⟩
    rintro k' j s' hj ⟨hj2, S', rfl, hS0', hSa, hSb⟩ hs'
    unfold hX5_sortEnds_60
    simp only [nS_r, g0, Int.toNat_natCast]
    refine ⟨⟨by omega, by omega⟩, ⟨by omega, by omega⟩, fun c => ?_, fun c => ⟨⟨by omega, by omega⟩, ⟨by omega, by omega⟩, ⟨by omega, by omega⟩, ?_⟩⟩
    · refine lay f 0 S' _ (by omega) (by omega) (fun n hn => ?_) hS0' ⟨fun n _ => Nat.zero_le _, fun n i _ hi => absurd hi (Nat.not_lt_zero _), fun n i i' _ _ hi => absurd hi (Nat.not_lt_zero _)⟩ (fun j n hj => by omega)
      rw [hSa n (by omega)]; rfl
    · rintro _ rfl
      rw [nS_w8]
      refine hs' (by omega) _ ⟨by omega, _, rfl, ?_, ?_, ?_⟩
      · rw [st_ne (by omega)]; exact hS0'
      · intro n hn
        by_cases e : n + 1 = j
        · subst e
          rw [st_at, show (((n + 1 : Nat) : Int) - 1).toNat = n by omega]
          obtain ⟨n', rfl⟩ : ∃ n', n = n' + 1 := ⟨n - 1, by omega⟩
          rw [hSb n' (by omega) (by omega), hSa n' (by omega)]
          show (_ : Int) = ((zb i a b n' + zdeg i a b n' : Nat) : Int)
          omega
        · rw [st_ne e]; exact hSa n (by omega)
      · intro n hn hjn
        rw [st_ne (by omega)]; exact hSb n hn (by omega)
  · have hab := gab i (by omega)
    have h2' := g2 i (by omega)
    simp only [h2'.1, h2'.2, zt2]
    refine ⟨⟨by omega, by omega⟩, ⟨by omega, by omega⟩, ⟨by omega, by omega⟩, ?_⟩
    rintro _ rfl
    simp only [nS_w8, nS_r, h2'.1, h2'.2, zt2]
    refine ⟨⟨by omega, by omega⟩, ⟨by omega, by omega⟩, ⟨by omega, by omega⟩, ?_⟩
    rintro _ rfl
    refine hs (by omega) _ ⟨_, rfl, ?_, ?_, ?_⟩
    · rw [st_ne (by omega), st_ne (by omega)]; exact hS0
    · rw [st_ne (by omega), st_ne (by omega)]; exact hS1
    · intro n hn
      rw [zdeg_succ]
      have hn' := hS n hn
      by_cases e : n = b i
      · subst e
        rw [st_at, if_pos (rfl : b i = b i)]
        by_cases e2 : b i = a i
        · rw [e2, st_at, if_pos rfl, ← e2, hn']; omega
        · rw [st_ne (by omega), if_neg (Ne.symm e2), hn']; omega
      · rw [st_ne (by omega), if_neg (Ne.symm e)]
        by_cases e2 : n = a i
        · subst e2; rw [st_at, if_pos rfl, hn']; omega
        · rw [st_ne (by omega), if_neg (Ne.symm e2), hn']; omega
