/-! THE LINKS OF A WORKS, ONE BEHIND THE OTHER -/
def zLb (A : Nat → Int) (ar x : Nat) : Bool := decide ((A 7 = 0 ∨ zLaw A 0 ar x (A 62) = 1) ∧ (A (37 + ar) = 1 → (x : Int) < gT (A 1) (A 2) (A 3) x (A (49 + ar))))
def zLi (A : Nat → Int) (ar x : Nat) : Nat × Nat × Nat × Nat := (ar, x, (A (13 + ar) * A 4 + x).toNat, (A (25 + ar) * A 4 + gT (A 1) (A 2) (A 3) x (A (49 + ar))).toNat)
def zLx (A : Nat → Int) (ar : Nat) : Nat → List (Nat × Nat × Nat × Nat)
  | 0 => []
  | x + 1 => zLx A ar x ++ (if zLb A ar x then [zLi A ar x] else [])
def zLs (A : Nat → Int) : Nat → List (Nat × Nat × Nat × Nat)
  | 0 => []
  | ar + 1 => zLs A ar ++ (if (A 61).toNat.testBit ar then [] else zLx A ar (A 4).toNat)
def zLk (A : Nat → Int) : List (Nat × Nat × Nat × Nat) := zLs A (A 6).toNat
def zNn (A : Nat → Int) : Nat := (A 5 * A 4).toNat
def zFa (A : Nat → Int) (i : Nat) : Nat := ((zLk A).getD i (0, 0, 0, 0)).2.2.1
def zFb (A : Nat → Int) (i : Nat) : Nat := ((zLk A).getD i (0, 0, 0, 0)).2.2.2
def zFr (A : Nat → Int) (i : Nat) : Nat := ((zLk A).getD i (0, 0, 0, 0)).1
def zFx (A : Nat → Int) (i : Nat) : Nat := ((zLk A).getD i (0, 0, 0, 0)).2.1
theorem zpn {p P x n : Int} (h0 : 0 ≤ p) (h1 : p < P) (h2 : 0 ≤ x) (h3 : x < n) : 0 ≤ p * n + x ∧ p * n + x < P * n := by
  have e1 : 0 ≤ p * n := Int.mul_nonneg h0 (by omega)
  have e2 : (p + 1) * n ≤ P * n := Int.mul_le_mul_of_nonneg_right (by omega) (by omega)
  rw [Int.add_mul] at e2
  omega
theorem zNn_b {A : Nat → Int} (h : wA A) : A 5 * A 4 = (zNn A : Int) ∧ 1 ≤ zNn A ∧ zNn A ≤ 60 := by
  have h1 := h.2.1
  have h2 := gOK_n h.1
  have e1 : 1 * 1 ≤ A 5 * A 4 := Int.mul_le_mul h1.1 h2.1 (by omega) (by omega)
  have e2 : A 5 * A 4 ≤ 5 * 12 := Int.mul_le_mul h1.2 h2.2 (by omega) (by omega)
  unfold zNn
  omega
theorem zLi_b {A : Nat → Int} (h : wA A) {ar x : Nat} (har : (ar : Int) < A 6) (hx : (x : Int) < A 4) : A (13 + ar) * A 4 + x = ((zLi A ar x).2.2.1 : Int) ∧ A (25 + ar) * A 4 + gT (A 1) (A 2) (A 3) x (A (49 + ar)) = ((zLi A ar x).2.2.2 : Int) ∧ (zLi A ar x).2.2.1 < zNn A ∧ (zLi A ar x).2.2.2 < zNn A := by
  have h1 := h.2.2.2.1 ar har
  have h2 := gOK_n h.1
  have h3 := g_fact h.1 (show 0 ≤ (x : Int) by omega) hx h1.2.2.2.1 h1.2.2.2.2
  have e1 := zpn h1.1.1 h1.1.2 (show 0 ≤ (x : Int) by omega) hx
  have e2 := zpn h1.2.1.1 h1.2.1.2 h3.1 h3.2.1
  have e3 := (zNn_b h).1
  unfold zLi
  simp only
  omega
theorem zLx_len {A : Nat → Int} {ar : Nat} : ∀ x, (zLx A ar x).length ≤ x
  | 0 => Nat.le_refl _
  | x + 1 => by
    have := zLx_len (A := A) (ar := ar) x
    unfold zLx
    rw [List.length_append]
    split <;> simp <;> omega
theorem zLs_len {A : Nat → Int} (h : wA A) : ∀ ar, (zLs A ar).length ≤ 12 * ar
  | 0 => Nat.le_refl _
  | ar + 1 => by
    have := zLs_len h ar
    have h2 := gOK_n h.1
    have h3 := zLx_len (A := A) (ar := ar) (A 4).toNat
    unfold zLs
    rw [List.length_append]
    split
    · simp; omega
    · omega
theorem zLk_len {A : Nat → Int} (h : wA A) : (zLk A).length ≤ 144 := by
  have := zLs_len h (A 6).toNat
  have := h.2.2.1
  unfold zLk
  omega
theorem zLx_mem {A : Nat → Int} {ar : Nat} {z : Nat × Nat × Nat × Nat} : ∀ n, z ∈ zLx A ar n → ∃ x, x < n ∧ z = zLi A ar x
  | 0, h => by simp [zLx] at h
  | n + 1, h => by
    unfold zLx at h
    rw [List.mem_append] at h
    rcases h with h | h
    · obtain ⟨x, hx, e⟩ := zLx_mem n h
      exact ⟨x, by omega, e⟩
    · split at h
      · rw [List.mem_singleton] at h; exact ⟨n, by omega, h⟩
      · cases h
theorem zLs_mem {A : Nat → Int} {z : Nat × Nat × Nat × Nat} : ∀ n, z ∈ zLs A n → ∃ ar x : Nat, ar < n ∧ x < (A 4).toNat ∧ z = zLi A ar x
  | 0, h => by simp [zLs] at h
  | n + 1, h => by
    unfold zLs at h
    rw [List.mem_append] at h
    rcases h with h | h
    · obtain ⟨ar, x, h1, h2, e⟩ := zLs_mem n h
      exact ⟨ar, x, by omega, h2, e⟩
    · split at h
      · cases h
      · obtain ⟨x, hx, e⟩ := zLx_mem _ h
        exact ⟨n, x, by omega, hx, e⟩
theorem zLk_at {A : Nat → Int} {l : Nat} (hl : l < (zLk A).length) : (zLk A)[l]? = some (zFr A l, zFx A l, zFa A l, zFb A l) := by
  unfold zFr zFx zFa zFb
  rw [List.getElem?_eq_getElem hl, List.getD_eq_getElem?_getD, List.getElem?_eq_getElem hl]
  rfl
theorem zLk_b {A : Nat → Int} (h : wA A) {l : Nat} (hl : l < (zLk A).length) : zFa A l < zNn A ∧ zFb A l < zNn A ∧ (zFr A l : Int) < A 6 ∧ (zFx A l : Int) < A 4 := by
  have e := zLk_at hl
  obtain ⟨ar, x, h1, h2, e2⟩ := zLs_mem _ (List.mem_of_getElem? e)
  have h6 := h.2.2.1
  have h4 := gOK_n h.1
  have e3 := zLi_b h (ar := ar) (x := x) (by omega) (by omega)
  rw [← e2] at e3
  have e4 : zFr A l = ar := congrArg (·.1) e2
  have e5 : zFx A l = x := congrArg (·.2.1) e2
  simp only at e3
  omega
/-- rows that hold such a list -/
def zRw (l : List (Nat × Nat × Nat × Nat)) (g2 g3 : Nat → Int) : Prop := ∀ i z, l[i]? = some z → g2 i = (z.2.2.1 : Nat) ∧ g3 i = (z.2.2.2 : Nat)
def zRw2 (l : List (Nat × Nat × Nat × Nat)) (g4 g5 : Nat → Int) : Prop := ∀ i z, l[i]? = some z → g4 i = (z.1 : Nat) ∧ g5 i = (z.2.1 : Nat)
theorem zRw_snoc {l : List (Nat × Nat × Nat × Nat)} {g2 g3 : Nat → Int} {z : Nat × Nat × Nat × Nat} (h : zRw l g2 g3) : zRw (l ++ [z]) (st g2 l.length (z.2.2.1 : Nat)) (st g3 l.length (z.2.2.2 : Nat)) := by
  intro i z' e
  by_cases hi : i < l.length
  · rw [List.getElem?_append_left hi] at e
    rw [st_ne (by omega), st_ne (by omega)]
    exact h i z' e
  · rw [List.getElem?_append_right (by omega)] at e
    have : i = l.length := by
      have := (List.getElem?_eq_some_iff.mp e).1
      simp at this
      omega
    subst this
    simp at e
    subst e
    exact ⟨st_at, st_at⟩
theorem zRw2_snoc {l : List (Nat × Nat × Nat × Nat)} {g2 g3 : Nat → Int} {z : Nat × Nat × Nat × Nat} (h : zRw2 l g2 g3) : zRw2 (l ++ [z]) (st g2 l.length (z.1 : Nat)) (st g3 l.length (z.2.1 : Nat)) := by
  intro i z' e
  by_cases hi : i < l.length
  · rw [List.getElem?_append_left hi] at e
    rw [st_ne (by omega), st_ne (by omega)]
    exact h i z' e
  · rw [List.getElem?_append_right (by omega)] at e
    have : i = l.length := by
      have := (List.getElem?_eq_some_iff.mp e).1
      simp at this
      omega
    subst this
    simp at e
    subst e
    exact ⟨st_at, st_at⟩
/-! the class: which members are kept -/
def kT (m : aj_M) (p : List Nat) (gp g11 S : Nat → Int) : aj_M := aj_ur (aj_ur (aj_ur m p gp) (11 :: p) g11) (6 :: 1 :: p) S
theorem kT_off {m : aj_M} {p r : List Nat} {gp g11 S : Nat → Int} (h1 : r ≠ p) (h2 : r ≠ 11 :: p) (h3 : r ≠ 6 :: 1 :: p) : kT m p gp g11 S r = m r := by simp [kT, zr_ur, h1, h2, h3]
theorem kT_p {m : aj_M} {p : List Nat} {gp g11 S : Nat → Int} : kT m p gp g11 S p = gp := by
  have h1 : p ≠ 11 :: p := by simp
  have h2 : p ≠ 6 :: 1 :: p := fun h => by have := congrArg List.length h; simp only [List.length_cons] at this; omega
  simp [kT, zr_ur, h2]
theorem kT_11 {m : aj_M} {p : List Nat} {gp g11 S : Nat → Int} : kT m p gp g11 S (11 :: p) = g11 := by simp [kT, zr_ur]
theorem wP_of {m m' : aj_M} {p : List Nat} {A : Nat → Int} (h : wP m p A) (hp : ∀ j, j ≠ 10 → m' p j = m p j) (h0 : m' (0 :: p) = m (0 :: p)) (h10 : m' (1 :: 0 :: p) = m (1 :: 0 :: p)) (h20 : m' (2 :: 0 :: p) = m (2 :: 0 :: p)) (h30 : m' (3 :: 0 :: p) = m (3 :: 0 :: p)) (h1 : m' (1 :: p) = m (1 :: p)) (h01 : m' (0 :: 1 :: p) = m (0 :: 1 :: p)) (h7 : m' (7 :: p) = m (7 :: p)) (h8 : m' (8 :: p) = m (8 :: p)) : wP m' p A := by
  unfold wP gC wPl
  rw [hp 3 (by decide), hp 4 (by decide), hp 5 (by decide), hp 6 (by decide), h0, h10, h20, h30, h1, h01, h7, h8]
  exact h
theorem zpl {p : List Nat} {l : List Nat} (h : l.length ≠ p.length) : l ≠ p := fun e => h (by rw [e])
theorem kT_wP {m : aj_M} {p : List Nat} {A : Nat → Int} {gp g11 S : Nat → Int} (h : wP m p A) (hp : ∀ j, j ≠ 10 → gp j = m p j) : wP (kT m p gp g11 S) p A := by
  refine wP_of h (fun j hj => by rw [kT_p]; exact hp j hj) ?_ ?_ ?_ ?_ ?_ ?_ ?_ ?_ <;> refine kT_off (zpl (by simp only [List.length_cons]; omega)) (by simp) (by simp) <;> exact zpl (by simp only [List.length_cons]; omega)
theorem pX6_knowKept {f : Nat} {Φ : aj_M → Prop} {p : List Nat} {m : aj_M} {A : Nat → Int} {t : Int} (hA : wA A) (hP : wP m p A) (hKp : wK m p A) (ht : 0 ≤ t ∧ t ≤ 9) (hf : 1000 ≤ f) (hK : ∀ gp g11 S : Nat → Int, (∀ j, j ≠ 10 → gp j = m p j) → gp 10 = t → (∀ ar : Nat, (ar : Int) < A 6 → ∃ B : Nat, g11 ar = B ∧ B < 4096 ∧ ∀ x : Nat, (x : Int) < A 4 → (B.testBit x = true ↔ zKept A ar x t)) → Φ (kT m p gp g11 S)) : wX6_knowKept f Φ p t m := by
  have h12 := hA.2.2.1
  have h4 := gOK_n hA.1
  have hl := hA.2.2.2.2.2.2.2.2.1
  obtain ⟨l1, l2, l3, l4, l5, l6, l7, l8, l9, l10⟩ := hP.2.2.2.2.2.2
  have hk10 : -1 ≤ m p 10 ∧ m p 10 ≤ 9 := by
    rcases hKp with h | h <;> omega
  have e0 : ∀ S, m = kT m p (m p) (m (11 :: p)) S → True := fun _ _ => trivial
  have eself : kT m p (m p) (m (11 :: p)) (m (6 :: 1 :: p)) = m := by
    funext r k
    simp only [kT, aj_ur]
    split
    · next h => subst h; rfl
    · split
      · next h => subst h; rfl
      · split
        · next h => subst h; rfl
        · rfl
  unfold wX6_knowKept
  refine ⟨⟨by omega, by omega⟩, ⟨by omega, by omega⟩, fun c => ?_, fun c => ?_⟩
  · rintro _ rfl
    have e1 : aj_u m p 10 t = kT m p (st (m p) 10 t) (m (11 :: p)) (m (6 :: 1 :: p)) := by
      have n2 : 6 :: 1 :: p ≠ p := zpl (by simp only [List.length_cons]; omega)
      unfold kT
      rw [zm_ur_id (p := 6 :: 1 :: p) (fun k => by rw [zr_ur, if_neg (by simp), zr_ur, if_neg n2]), zm_ur_id (p := 11 :: p) (fun k => by rw [zr_ur, if_neg (by simp)]), zu_base]
    have r1 : ∀ gp g11 S, kT m p gp g11 S (1 :: p) = m (1 :: p) := fun gp g11 S => kT_off (by simp) (by simp) (by simp)
    have r0 : ∀ gp g11 S, kT m p gp g11 S (0 :: p) = m (0 :: p) := fun gp g11 S => kT_off (by simp) (by simp) (by simp)
    have hgp : ∀ j, j ≠ 10 → st (m p) 10 t j = m p j := fun j hj => st_ne hj
    -- the law's loops
    have outer : ∀ (told : Int), (told = 0 ∧ A 7 = 0) ∨ (told = 1 ∧ A 7 = 1) → hX6_knowKept_39 f Φ f p t told 0 (kT m p (st (m p) 10 t) (m (11 :: p)) (m (6 :: 1 :: p))) := by
      intro told htold
      refine zfor (H := fun k i s => hX6_knowKept_39 f Φ k p t told i s) (N := (A 6).toNat) (fun i s => ∃ g11 S : Nat → Int, s = kT m p (st (m p) 10 t) g11 S ∧ ∀ ar : Nat, ar < i → ∃ B : Nat, g11 ar = B ∧ B < 4096 ∧ ∀ x : Nat, (x : Int) < A 4 → (B.testBit x = true ↔ zKept A ar x t)) ?_ f 0 _ (by omega) (by omega) ⟨_, _, rfl, fun ar h => by omega⟩
      rintro k i s hi ⟨g11, S, rfl, hg⟩ hs
      unfold hX6_knowKept_39
      simp only [kT_p, hgp 4 (by decide), hP.2.2.1]
      refine ⟨⟨by omega, by omega⟩, ⟨by omega, by omega⟩, fun c => hK _ g11 S hgp st_at (fun ar har => hg ar (by omega)), fun c => ?_⟩
      -- the members of one arc
      have inner : ∀ (k' x : Nat) (B : Nat) (S : Nat → Int), (x : Int) ≤ A 4 → (A 4).toNat - x < k' → B < 2 ^ x → (∀ y : Nat, y < x → (B.testBit y = true ↔ zKept A i y t)) → hX6_knowKept_53 f Φ (fun q0 v1 v2 v3 m => hX6_knowKept_39 f Φ k q0 v1 v2 v3 m) k' p t told i B x (kT m p (st (m p) 10 t) g11 S) := by
        intro k'
        induction k' with
        | zero => intro x B S h1 h2; omega
        | succ k' ih =>
          intro x B S hx1 hx2 hB hBx
          have h2x : 2 ^ x ≤ 4096 := Nat.pow_le_pow_right (n := 2) (by decide) (show x ≤ 12 by omega)
          unfold hX6_knowKept_53
          simp only [r0, r1, hP.1.1]
          refine ⟨⟨by omega, by omega⟩, ⟨by omega, by omega⟩, fun c2 => ⟨⟨by omega, by omega⟩, ?_⟩, fun c2 => ?_⟩
          · rintro _ rfl
            have e2 : aj_u (kT m p (st (m p) 10 t) g11 S) (11 :: p) (i : Int).toNat B = kT m p (st (m p) 10 t) (st g11 i B) S := by
              rw [Int.toNat_natCast]
              simp [kT, zu_push]
            rw [e2]
            refine hs (by omega) _ ⟨_, _, rfl, fun ar har => ?_⟩
            by_cases ea : ar = i
            · subst ea
              rw [st_at]
              exact ⟨B, rfl, by omega, fun y hy => hBx y (by omega)⟩
            · rw [st_ne ea]; exact hg ar (by omega)
          · have hx12 : x < 12 := by omega
            have hor : aj_or (B : Int) (aj_shl 1 (x : Int)) = ((B ||| 2 ^ x : Nat) : Int) := by
              rw [zi_shl (by omega), zi_or (by omega) (by omega)]
            have hor2 : B ||| 2 ^ x < 2 ^ (x + 1) := Nat.or_lt_two_pow (by rw [Nat.pow_succ]; omega) (by rw [Nat.pow_succ]; omega)
            have hyes : ∀ S, zKept A i x t → hX6_knowKept_53 f Φ (fun q0 v1 v2 v3 m => hX6_knowKept_39 f Φ k q0 v1 v2 v3 m) k' p t told i ((B ||| 2 ^ x : Nat) : Int) ((x : Int) + 1) (kT m p (st (m p) 10 t) g11 S) := by
              intro S hk
              refine ih (x + 1) (B ||| 2 ^ x) S (by omega) (by omega) hor2 (fun y hy => ?_)
              rw [zt_or]
              by_cases ey : y = x
              · subst ey; simp [hk]
              · have := hBx y (by omega)
                simp [Ne.symm ey, this]
            have hno : ∀ S, ¬ zKept A i x t → hX6_knowKept_53 f Φ (fun q0 v1 v2 v3 m => hX6_knowKept_39 f Φ k q0 v1 v2 v3 m) k' p t told i (B : Int) ((x : Int) + 1) (kT m p (st (m p) 10 t) g11 S) := by
              intro S hk
              refine ih (x + 1) B S (by omega) (by omega) (by rw [Nat.pow_succ]; omega) (fun y hy => ?_)
              by_cases ey : y = x
              · subst ey
                rw [Nat.testBit_lt_two_pow hB]
                simp [hk]
              · exact hBx y (by omega)
            rw [hor]
            rcases htold with ⟨rfl, h7⟩ | ⟨rfl, h7⟩
            · exact ⟨by decide, fun _ => hyes S (Or.inl h7), fun c3 => absurd rfl c3⟩
            · refine ⟨by decide, fun c3 => absurd c3 (by decide), fun _ => ?_⟩
              have e := l8 h7
              refine pX4_value (lw := 0) (ty := true) (A := A) hA (by omega) hl h7 e.1 e.2 ?_ ?_ (by omega) ⟨by omega, by omega⟩ ht hf (fun S' hv => ?_)
              · rw [kT_off (zpl (by simp only [List.length_cons]; omega)) (by simp) (by simp)]; exact l2
              · rw [kT_off (by simp) (by simp) (by simp), kT_off (by simp) (by simp) (by simp)]; exact hP.2.2.2.2.2.1 i (by omega)
              · have e3 : aj_ur (kT m p (st (m p) 10 t) g11 S) (6 :: 1 :: p) S' = kT m p (st (m p) 10 t) g11 S' := by
                  unfold kT; rw [zm_ur_ur]
                rw [e3]
                have hv1 := hv.1 rfl
                refine ⟨⟨by omega, by omega⟩, fun c4 => hno S' (fun h => ?_), fun c4 => hyes S' (Or.inr (by omega))⟩
                rcases h with h | h <;> omega
      exact inner f 0 0 S (by omega) (by omega) (by decide) (fun y hy => by omega)
    rw [e1]
    simp only [r1]
    have h7 : A 7 = 0 ∨ A 7 = 1 := by
      rcases hl with h | h
      · exact Or.inl h
      · exact Or.inr h.1
    rcases h7 with h7 | h7
    · have := l7 h7
      exact ⟨⟨by omega, by omega⟩, ⟨by omega, by omega⟩, fun _ => outer 0 (Or.inl ⟨rfl, h7⟩), fun c => by omega⟩
    · have e := l8 h7
      rcases id hl with h0 | ⟨_, fr, many, f1, f2, f3, f4, f5, f6⟩
      · have h0' : A 7 = 0 := h0
        omega
      · have f1' : A 9 = fr := f1
        have f2' : A 11 = many := f2
        exact ⟨⟨by omega, by omega⟩, ⟨by omega, by omega⟩, fun c => by omega, fun _ => outer 1 (Or.inr ⟨rfl, h7⟩)⟩
  · have := hK (m p) (m (11 :: p)) (m (6 :: 1 :: p)) (fun _ _ => rfl) c (fun ar har => by
      rcases hKp with h | ⟨h1, h2, h3⟩
      · omega
      · rw [← c]; exact h3 ar har)
    rwa [eself] at this
theorem zb0' {A B : Prop} (h : A) : rI 0 ∧ ((0 : Int) = 0 → A) ∧ (¬ ((0 : Int) = 0) → B) := ⟨by decide, fun _ => h, fun e => absurd rfl e⟩
theorem zc1' {A B : Prop} (h : B) : rI 1 ∧ ((1 : Int) = 0 → A) ∧ (¬ ((1 : Int) = 0) → B) := ⟨by decide, fun e => absurd e (by decide), fun _ => h⟩
