/-! LOTS: what is drawn, what it is worth; the class -/
noncomputable def zGv (B : Nat → Int) : Int := Classical.epsilon (fun w => zGp (zNn B) (zLk B).length (zFa B) (zFb B) w)
theorem zGv_u {B : Nat → Int} {w : Int} (h : zGp (zNn B) (zLk B).length (zFa B) (zFb B) w) : w = zGv B := zGp_u h (Classical.epsilon_spec (p := fun w => zGp (zNn B) (zLk B).length (zFa B) (zFb B) w) ⟨w, h⟩)
def zV (k w : Int) : Int := if k = 0 then (if w = -1 then 0 else w) else (if w = -1 ∨ k ≤ w then 1 else 0)
def zVa (A : Nat → Int) (u : Nat) : Prop := (u : Int) < A 6 ∧ A (37 + u) ≠ 1 ∧ 1 < A 4
theorem zVa_d (A : Nat → Int) (u : Nat) : zVa A u ∨ ¬ zVa A u := Classical.em _
noncomputable def zLo (A : Nat → Int) (u : Nat) : Nat → Int := @ite _ (zVa A u) (Classical.propDecidable _) (tup A (49 + u) (gT (A 1) (A 2) (A 3) (A (49 + u)) 1)) A
theorem zLo_y {A : Nat → Int} {u : Nat} (h : zVa A u) : zLo A u = tup A (49 + u) (gT (A 1) (A 2) (A 3) (A (49 + u)) 1) := if_pos h
theorem zLo_n {A : Nat → Int} {u : Nat} (h : ¬ zVa A u) : zLo A u = A := if_neg h
theorem zLo_o {A : Nat → Int} {u j : Nat} (h : j ≠ 49 + u) : zLo A u j = A j := by
  rcases zVa_d A u with c | c
  · rw [zLo_y c, tup_o h]
  · rw [zLo_n c]
theorem zVa_L {A : Nat → Int} {u v : Nat} (hu : u < 12) (hv : v < 12) : zVa (zLo A u) v ↔ zVa A v := by
  unfold zVa
  rw [zLo_o (by omega), zLo_o (by omega), zLo_o (by omega)]
theorem zLo_sg {A : Nat → Int} {u : Nat} (hu : u < 12) : zSg A (zLo A u) := fun j hj => zLo_o (by omega)
theorem zLo_A {A : Nat → Int} (hA : wA A) {u : Nat} : wA (zLo A u) := by
  rcases zVa_d A u with c | c
  · rw [zLo_y c]
    obtain ⟨c1, c2, c3⟩ := c
    have h6 := hA.2.2.1
    have hs := zA_same hA u c1
    have hg := g_fact hA.1 hs.1.1 hs.1.2 (y := 1) (by omega) (by omega)
    have hw : zWht A (u : Int) (gT (A 1) (A 2) (A 3) (A (49 + u)) 1) = 0 := by
      unfold zWht
      rw [if_pos ⟨⟨by omega, c1⟩, hg.1, hg.2.1⟩, Int.toNat_natCast, if_neg (fun x => c2 x.1)]
    have := (zA_turn hA hw).1
    rwa [Int.toNat_natCast] at this
  · rw [zLo_n c]
    exact hA
/-- two lots bring the same in either order -/
theorem zLo_c {A : Nat → Int} {u v : Nat} (hu : u < 12) (hv : v < 12) : zLo (zLo A u) v = zLo (zLo A v) u := by
  by_cases e : u = v
  · rw [e]
  · rcases zVa_d A u with cu | cu <;> rcases zVa_d A v with cv | cv
    · rw [zLo_y ((zVa_L hu hv).mpr cv), zLo_y ((zVa_L hv hu).mpr cu)]
      rw [zLo_o (A := A) (u := u) (j := 1) (by omega), zLo_o (A := A) (u := u) (j := 2) (by omega), zLo_o (A := A) (u := u) (j := 3) (by omega), zLo_o (A := A) (u := u) (j := 49 + v) (by omega), zLo_o (A := A) (u := v) (j := 1) (by omega), zLo_o (A := A) (u := v) (j := 2) (by omega), zLo_o (A := A) (u := v) (j := 3) (by omega), zLo_o (A := A) (u := v) (j := 49 + u) (by omega), zLo_y cu, zLo_y cv]
      funext j
      by_cases a : j = 49 + v
      · rw [a, tup_s, tup_o (by omega), tup_s]
      · by_cases b : j = 49 + u
        · rw [b, tup_o (by omega), tup_s, tup_s]
        · rw [tup_o a, tup_o b, tup_o b, tup_o a]
    · rw [zLo_n (fun x => cv ((zVa_L hu hv).mp x)), zLo_n cv]
    · rw [zLo_n cu, zLo_n (fun x => cu ((zVa_L hv hu).mp x))]
    · rw [zLo_n cu, zLo_n cv, zLo_n cu]
def sumU (F : Nat → Int) : Nat → Int
  | 0 => 0
  | j + 1 => sumU F j + F j
def zIn (F : Nat → Nat → Int) (u : Nat) : Nat → Int
  | 0 => 0
  | j + 1 => if j < u then 0 else zIn F u j + (if j = u then F u j else 2 * F u j)
theorem zIn_s {F : Nat → Nat → Int} (h : ∀ u v, u < 10 → v < 10 → F u v = F v u) : sumU (fun u => zIn F u 10) 10 = sumU (fun u => sumU (fun v => F u v) 10) 10 := by
  simp only [sumU, zIn]
  simp only [Nat.reduceLT, Nat.reduceEqDiff, if_true, if_false, Nat.lt_irrefl]
  have s : ∀ u v, u < 10 → v < u → F u v = F v u := fun u v a b => h u v a (by omega)
  rw [s 1 0, s 2 0, s 2 1, s 3 0, s 3 1, s 3 2, s 4 0, s 4 1, s 4 2, s 4 3, s 5 0, s 5 1, s 5 2, s 5 3, s 5 4, s 6 0, s 6 1, s 6 2, s 6 3, s 6 4, s 6 5, s 7 0, s 7 1, s 7 2, s 7 3, s 7 4, s 7 5, s 7 6, s 8 0, s 8 1, s 8 2, s 8 3, s 8 4, s 8 5, s 8 6, s 8 7, s 9 0, s 9 1, s 9 2, s 9 3, s 9 4, s 9 5, s 9 6, s 9 7, s 9 8]
  all_goals omega
/-- what the draws bring, in sum -/
noncomputable def zSu (k : Int) : Nat → (Nat → Int) → Int
  | 0, B => zV k (zGv B)
  | n + 1, B => sumU (fun u => zSu k n (zLo B u)) 10
/-! the class -/
theorem pX11_worth {f : Nat} {Φ : Int → aj_M → Prop} {m m1 : aj_M} {A B : Nat → Int} {k : Int} (hf : 1000 ≤ f) (hA : wA A) (hB : wA B) (sg : zSg A B) (h : zGs m m1 A) (hS : wS m1 [4, 0] B) (hk : 0 ≤ k ∧ k ≤ 60) (hK : ∀ m', zGs m m' A → wS m' [4, 0] B → m' [0, 4, 0] = m1 [0, 4, 0] → 0 ≤ zV k (zGv B) → zV k (zGv B) ≤ 120 → Φ (zV k (zGv B)) m') : wX11_worth f Φ [0] k m1 := by
  have hN := (zNn_b hB).2.2
  refine pGuessRing (Φ := fun z2 m2 => rI k ∧ (¬ k = 0 → rI z2 ∧ rI k ∧ (z2 < k → Φ 0 m2) ∧ (¬ (z2 < k) → Φ 1 m2)) ∧ (k = 0 → rI z2 ∧ (¬ z2 = 1000000 → Φ z2 m2) ∧ (z2 = 1000000 → Φ 0 m2))) hf hA hB sg h hS (fun m' z g gi e1 e2 => ?_)
  obtain ⟨w, w1, w2⟩ := zGir_v gi hN (by decide)
  have ew := zGv_u w1
  subst ew
  have hk' := hK m' g (wS_off hS e1 e2) e2
  unfold zV at hk'
  refine ⟨⟨by omega, by omega⟩, fun c => ⟨⟨by omega, by omega⟩, ⟨by omega, by omega⟩, fun d => ?_, fun d => ?_⟩, fun c => ⟨⟨by omega, by omega⟩, fun d => ?_, fun d => ?_⟩⟩
  · rw [if_neg c, if_neg (by omega)] at hk'
    exact hk' (by decide) (by decide)
  · rw [if_neg c, if_pos (by omega)] at hk'
    exact hk' (by decide) (by decide)
  · rw [if_pos c, if_neg (by omega)] at hk'
    rw [show z = zGv B by omega]
    exact hk' (by omega) (by omega)
  · rw [if_pos c, if_pos (by omega)] at hk'
    exact hk' (by decide) (by decide)
theorem pX11_drawLot {f : Nat} {Φ : aj_M → Prop} {m m1 : aj_M} {A B : Nat → Int} {u : Nat} (hA : wA A) (hB : wA B) (sg : zSg A B) (h : zGs m m1 A) (hS : wS m1 [4, 0] B) (hu : u < 10) (hK : ∀ m', zGs m m' A → wS m' [4, 0] (zLo B u) → (∀ j, j ≠ u → m' [0, 4, 0] j = m1 [0, 4, 0] j) → Φ m') : wX11_drawLot f Φ [0] (u : Int) m1 := by
  have hP := h.2.2.2.2.1
  have hPB := zAg_P (zSg_Ag sg) hA.2.2.1.2 hP
  have h6 := hB.2.2.1
  have h4 := gOK_n hB.1
  have no : ¬ zVa B u → Φ m1 := fun c => hK m1 h (by rw [zLo_n c]; exact hS) (fun _ _ => rfl)
  refine pX6_hasArc ⟨by omega, by omega⟩ hPB.2.2.1 h6 (fun a1 a2 => zb1 ?_) (fun c => zb0 (no (fun x => c ⟨by omega, x.1⟩)))
  refine pX6_isHalf hB hPB ⟨by omega, by omega⟩ (fun _ _ e => zc1 (no (fun x => x.2.1 (by rw [Int.toNat_natCast] at e; exact e)))) (fun c => zc0 ?_)
  rw [Int.toNat_natCast] at c
  refine pX0_has (by decide) (by rw [hPB.1.1]; exact ⟨by omega, by omega⟩) (fun _ e => zb1 ⟨⟨by omega, by omega⟩, ?_⟩) (fun e => zb0 (no (fun x => e ⟨by decide, by rw [hPB.1.1]; exact x.2.2⟩)))
  rw [hPB.1.1] at e
  rw [Int.toNat_natCast]
  have hv : zVa B u := ⟨a2, fun x => c ⟨by omega, a2, x⟩, e⟩
  have hs := zA_same hB u a2
  have ex : m1 [0, 4, 0] u = B (49 + u) := hS.1 u a2
  rw [ex]
  refine pX0_times hPB.1.1 (by omega) hs.1.1 hs.1.2 (by decide) e (hPB.1.2.1 _ _ hs.1.1 hs.1.2 (by decide) e) ⟨⟨by omega, by omega⟩, ?_⟩
  rintro _ rfl
  have z3 : zo [[4, 0], [0, 4, 0]] m1 (aj_u m1 [0, 4, 0] u (gT (B 1) (B 2) (B 3) (B (49 + u)) 1)) := fun p hp => by
    simp only [List.mem_cons, List.not_mem_nil, or_false, not_or] at hp
    exact zu_off hp.2
  refine hK _ (zGs_s h z3) ?_ (fun j hj => by rw [zu_tup, tup_o hj])
  rw [zLo_y hv]
  refine ⟨fun j hj => ?_, ?_, ?_⟩
  · rw [tup_o (by omega)] at hj
    rw [zu_tup]
    by_cases e : j = u
    · subst e
      rw [tup_s, tup_s]
    · rw [tup_o e, tup_o (by omega)]
      exact hS.1 j hj
  · rw [zu_off (by decide), tup_o (by omega)]
    exact hS.2.1
  · rw [zu_off (by decide), tup_o (by omega)]
    exact hS.2.2
/-- the voltage is set back -/
theorem dr_back {m m1 : aj_M} {A B : Nat → Int} {u : Nat} {x : Int} (h : zGs m m1 A) (hS : wS m1 [4, 0] (zLo B u)) (hx : (u : Int) < B 6 → x = B (49 + u)) (hu : u < 10) : zGs m (aj_u m1 [0, 4, 0] u x) A ∧ wS (aj_u m1 [0, 4, 0] u x) [4, 0] B := by
  have z3 : zo [[4, 0], [0, 4, 0]] m1 (aj_u m1 [0, 4, 0] u x) := fun p hp => by
    simp only [List.mem_cons, List.not_mem_nil, or_false, not_or] at hp
    exact zu_off hp.2
  refine ⟨zGs_s h z3, fun j hj => ?_, ?_, ?_⟩
  · rw [zu_tup]
    by_cases e : j = u
    · subst e
      rw [tup_s]
      exact hx hj
    · rw [tup_o e, hS.1 j (by rw [zLo_o (by omega)]; exact hj), zLo_o (by omega)]
  · rw [zu_off (by decide), hS.2.1, zLo_o (by omega)]
  · rw [zu_off (by decide), hS.2.2, zLo_o (by omega)]
theorem hX11_dr56 {f : Nat} {Φ : Int → aj_M → Prop} {K : List Nat → Int → Int → Int → Int → aj_M → Prop} {m : aj_M} {A : Nat → Int} {k s0 : Int} {u : Nat} (hf : 1000 ≤ f) (hA : wA A) (hk : 0 ≤ k ∧ k ≤ 60) (hu : u < 10) (hS0 : wS m [2, 0] A) (hK : ∀ m', zGs m m' A → wS m' [4, 0] A → 0 ≤ zIn (fun u v => zV k (zGv (zLo (zLo A u) v))) u 10 → zIn (fun u v => zV k (zGv (zLo (zLo A u) v))) u 10 ≤ 2400 → K [0] 2 k (s0 + zIn (fun u v => zV k (zGv (zLo (zLo A u) v))) u 10) ((u : Int) + 1) m') : ∀ (kf j : Nat) (mm : aj_M), u ≤ j → j ≤ 10 → 10 - j < kf → zGs m mm A → wS mm [4, 0] (zLo A u) → 0 ≤ zIn (fun u v => zV k (zGv (zLo (zLo A u) v))) u j → zIn (fun u v => zV k (zGv (zLo (zLo A u) v))) u j ≤ 240 * j → hX11_drawn_56 f Φ K kf [0] 2 k (s0 + zIn (fun u v => zV k (zGv (zLo (zLo A u) v))) u j) (u : Int) (j : Int) mm := by
  have h6 := hA.2.2.1
  have hAu := zLo_A hA (u := u)
  have sgu := zLo_sg (A := A) (u := u) (by omega)
  intro kf
  induction kf with
  | zero => intro j mm h1 h2 h3; omega
  | succ kf ih =>
    intro j mm h1 h2 h3 gs hS b1 b2
    unfold hX11_drawn_56
    refine ⟨by decide, fun x => absurd rfl x, fun _ => ⟨⟨by omega, by omega⟩, fun c => ⟨⟨by omega, by omega⟩, ⟨by omega, by omega⟩, ?_⟩, fun c => ⟨⟨by omega, by omega⟩, ?_⟩⟩⟩
    · have ej : j = 10 := by omega
      subst ej
      rintro _ rfl
      rw [Int.toNat_natCast]
      obtain ⟨g2, s2⟩ := dr_back (x := mm [0, 2, 0] u) gs hS (fun x => by rw [gs.1 _ (by decide)]; exact hS0.1 u x) hu
      exact hK _ g2 s2 b1 (by omega)
    · rw [Int.toNat_natCast]
      refine pX11_drawLot hA hAu sgu gs hS (by omega) (fun m3 g3 s3 _ => ⟨⟨by omega, by omega⟩, ⟨by omega, by omega⟩, fun d => ?_, fun d => ?_⟩)
      · have hAv := zLo_A hAu (u := j)
        have sgv : zSg A (zLo (zLo A u) j) := fun i hi => (zLo_sg (A := zLo A u) (u := j) (by omega) i hi).trans (sgu i hi)
        refine pX11_worth hf hA hAv sgv g3 s3 hk (fun m4 g4 s4 _ v1 v2 => ⟨⟨by omega, by omega⟩, ?_⟩)
        rintro _ rfl
        obtain ⟨g5, s5⟩ := dr_back (x := mm [0, 4, 0] j) g4 s4 (fun x => hS.1 j x) (by omega)
        have e : zIn (fun u v => zV k (zGv (zLo (zLo A u) v))) u (j + 1) = zIn (fun u v => zV k (zGv (zLo (zLo A u) v))) u j + 2 * zV k (zGv (zLo (zLo A u) j)) := by
          rw [zIn, if_neg (by omega), if_neg (by omega)]
        have := ih (j + 1) _ (by omega) (by omega) (by omega) g5 s5 (by rw [e]; omega) (by rw [e]; omega)
        rw [e, ← Int.add_assoc] at this
        exact this
      · have hAv := zLo_A hAu (u := j)
        have sgv : zSg A (zLo (zLo A u) j) := fun i hi => (zLo_sg (A := zLo A u) (u := j) (by omega) i hi).trans (sgu i hi)
        refine pX11_worth hf hA hAv sgv g3 s3 hk (fun m4 g4 s4 _ v1 v2 => ⟨⟨by omega, by omega⟩, ?_⟩)
        rintro _ rfl
        obtain ⟨g5, s5⟩ := dr_back (x := mm [0, 4, 0] j) g4 s4 (fun x => hS.1 j x) (by omega)
        have ej : j = u := by omega
        have e : zIn (fun u v => zV k (zGv (zLo (zLo A u) v))) u (j + 1) = zIn (fun u v => zV k (zGv (zLo (zLo A u) v))) u j + zV k (zGv (zLo (zLo A u) j)) := by
          rw [zIn, if_neg (by omega), if_pos ej]
        have := ih (j + 1) _ (by omega) (by omega) (by omega) g5 s5 (by rw [e]; omega) (by rw [e]; omega)
        rw [e, ← Int.add_assoc] at this
        exact this
theorem zIn_u {F : Nat → Nat → Int} : ∀ u, zIn F u u = 0
  | 0 => rfl
  | u + 1 => by rw [zIn, if_pos (by omega)]
theorem hX11_dr26b {f : Nat} {Φ : Int → aj_M → Prop} {m : aj_M} {A : Nat → Int} {k : Int} (hf : 1000 ≤ f) (hA : wA A) (hk : 0 ≤ k ∧ k ≤ 60) (hS0 : wS m [2, 0] A) (hK : ∀ m', zGs m m' A → 0 ≤ sumU (fun u => zIn (fun u v => zV k (zGv (zLo (zLo A u) v))) u 10) 10 → sumU (fun u => zIn (fun u v => zV k (zGv (zLo (zLo A u) v))) u 10) 10 ≤ 24000 → Φ (sumU (fun u => zIn (fun u v => zV k (zGv (zLo (zLo A u) v))) u 10) 10) m') : ∀ (kf u : Nat) (mm : aj_M), u ≤ 10 → 10 - u < kf → zGs m mm A → wS mm [4, 0] A → 0 ≤ sumU (fun u => zIn (fun u v => zV k (zGv (zLo (zLo A u) v))) u 10) u → sumU (fun u => zIn (fun u v => zV k (zGv (zLo (zLo A u) v))) u 10) u ≤ 2400 * u → hX11_drawn_26 f Φ kf [0] 2 k (sumU (fun u => zIn (fun u v => zV k (zGv (zLo (zLo A u) v))) u 10) u) (u : Int) mm := by
  intro kf
  induction kf with
  | zero => intro u mm h1 h2; omega
  | succ kf ih =>
    intro u mm h1 h2 gs hS b1 b2
    unfold hX11_drawn_26
    refine ⟨⟨by omega, by omega⟩, fun c => ?_, fun c => ?_⟩
    · have eu : u = 10 := by omega
      subst eu
      exact hK mm gs b1 (by omega)
    · refine pX11_drawLot hA hA (fun _ _ => rfl) gs hS (by omega) (fun m3 g3 s3 _ => ⟨by decide, fun _ => ?_, fun x => absurd x (by decide)⟩)
      have := hX11_dr56 (f := f) (Φ := Φ) (K := fun q0 v1 v2 v3 v4 m => hX11_drawn_26 f Φ kf q0 v1 v2 v3 v4 m) (m := m) (k := k) (s0 := sumU (fun u => zIn (fun u v => zV k (zGv (zLo (zLo A u) v))) u 10) u) (u := u) hf hA hk (by omega) hS0 (fun m' g' s' w1 w2 => ih (u + 1) m' (by omega) (by omega) g' s' (Int.add_nonneg b1 w1) (Int.le_trans (Int.add_le_add b2 w2) (by omega))) f u m3 (by omega) (by omega) (by omega) g3 s3 (by rw [zIn_u]; omega) (by rw [zIn_u]; omega)
      rw [zIn_u, Int.add_zero] at this
      exact this
theorem hX11_dr26a {f : Nat} {Φ : Int → aj_M → Prop} {m : aj_M} {A : Nat → Int} {k : Int} (hf : 1000 ≤ f) (hA : wA A) (hk : 0 ≤ k ∧ k ≤ 60) (hS0 : wS m [2, 0] A) (hK : ∀ m', zGs m m' A → 0 ≤ sumU (fun u => zV k (zGv (zLo A u))) 10 → sumU (fun u => zV k (zGv (zLo A u))) 10 ≤ 24000 → Φ (sumU (fun u => zV k (zGv (zLo A u))) 10) m') : ∀ (kf u : Nat) (mm : aj_M), u ≤ 10 → 10 - u < kf → zGs m mm A → wS mm [4, 0] A → 0 ≤ sumU (fun u => zV k (zGv (zLo A u))) u → sumU (fun u => zV k (zGv (zLo A u))) u ≤ 120 * u → hX11_drawn_26 f Φ kf [0] 1 k (sumU (fun u => zV k (zGv (zLo A u))) u) (u : Int) mm := by
  intro kf
  induction kf with
  | zero => intro u mm h1 h2; omega
  | succ kf ih =>
    intro u mm h1 h2 gs hS b1 b2
    unfold hX11_drawn_26
    refine ⟨⟨by omega, by omega⟩, fun c => ?_, fun c => ?_⟩
    · have eu : u = 10 := by omega
      subst eu
      exact hK mm gs b1 (by omega)
    · refine pX11_drawLot hA hA (fun _ _ => rfl) gs hS (by omega) (fun m3 g3 s3 _ => ⟨by decide, fun x => absurd rfl x, fun _ => ?_⟩)
      refine pX11_worth hf hA (zLo_A hA) (zLo_sg (by omega)) g3 s3 hk (fun m4 g4 s4 _ v1 v2 => ?_)
      obtain ⟨f', rfl⟩ : ∃ f', f = f' + 1 := ⟨f - 1, by omega⟩
      unfold hX11_drawn_56
      refine ⟨by decide, fun _ => ⟨⟨by omega, by omega⟩, ⟨by omega, by omega⟩, ?_⟩, fun x => absurd x (by decide)⟩
      rintro _ rfl
      rw [Int.toNat_natCast]
      obtain ⟨g5, s5⟩ := dr_back (x := m4 [0, 2, 0] u) g4 s4 (fun x => by rw [g4.1 _ (by decide)]; exact hS0.1 u x) (by omega)
      exact ih (u + 1) _ (by omega) (by omega) g5 s5 (Int.add_nonneg b1 v1) (Int.le_trans (Int.add_le_add b2 v2) (by omega))
theorem pX11_drawn {f : Nat} {Φ : Int → aj_M → Prop} {m : aj_M} {A : Nat → Int} {k : Int} {n : Nat} (hf : 1000 ≤ f) (hA : wA A) (hP : wP m [1, 0] A) (hKp : wK m [1, 0] A) (hvi : ∀ k, rI (m [12, 9, 0] k)) (hS : wS m [2, 0] A) (hk : 0 ≤ k ∧ k ≤ 60) (hn : n ≤ 2) (hK : ∀ m', zGs m m' A → 0 ≤ zSu k n A → zSu k n A ≤ 24000 → Φ (zSu k n A) m') : wX11_drawn f Φ [0] (n : Int) k m := by
  refine pX9_copyFrom (by decide) (by decide) (by decide) ?_
  intro m1 z1 s1
  have s1 := s1 A hA.2.2.1.2 hS
  have g1 := zGs_s (zGs_0 hP hKp hvi) z1
  have : n = 0 ∨ n = 1 ∨ n = 2 := by omega
  rcases this with rfl | rfl | rfl
  · refine ⟨by decide, fun x => absurd rfl x, fun _ => ?_⟩
    exact pX11_worth hf hA hA (fun _ _ => rfl) g1 s1 hk (fun m' g' _ _ b1 b2 => hK m' g' b1 (show zV k (zGv A) ≤ 24000 by omega))
  · refine ⟨by decide, fun _ => ?_, fun x => absurd x (by decide)⟩
    exact hX11_dr26a hf hA hk hS (fun m' g' b1 b2 => hK m' g' b1 b2) f 0 m1 (by omega) (by omega) g1 s1 (show (0 : Int) ≤ 0 by decide) (show (0 : Int) ≤ 120 * ((0 : Nat) : Int) by decide)
  · refine ⟨by decide, fun _ => ?_, fun x => absurd x (by decide)⟩
    refine hX11_dr26b hf hA hk hS (fun m' g' b1 b2 => ?_) f 0 m1 (by omega) (by omega) g1 s1 (show (0 : Int) ≤ 0 by decide) (show (0 : Int) ≤ 2400 * ((0 : Nat) : Int) by decide)
    rw [zIn_s (fun u v a b => by rw [zLo_c (by omega) (by omega)])] at b1 b2 ⊢
    exact hK m' g' b1 b2
