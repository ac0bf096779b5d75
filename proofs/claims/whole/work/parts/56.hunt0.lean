/-! THE SEARCH BY HAND, as a function -/
def zpc (x : Nat) : Nat := zcnt x.testBit 14
def zJn (near : Nat → Nat) (u v : Nat) : Nat → Nat := sn (sn near u (near u ||| 2 ^ v)) v (near v ||| 2 ^ u)
/-- one step further out -/
def zexa (near : Nat → Nat) (s : Nat) : Nat → Nat
  | 0 => s
  | v + 1 => if s.testBit v then zexa near s v ||| near v else zexa near s v
def zball (near : Nat → Nat) (n : Nat) : Nat → Nat → Nat
  | 0, s => s
  | k + 1, s => zball near n k (zexa near s n)
def zln (near : Nat → Nat) (u v : Nat) : Bool := decide (zcnt (fun i => decide (u < i ∧ near i = 0)) v ≠ 0)
def zcd (dg g n : Nat) (near : Nat → Nat) (sh u v : Nat) : Bool := decide (zpc (near v) < dg) && !(zball near n (g - 2) (2 ^ u)).testBit v && !sh.testBit v && !(decide (near v = 0) && zln near u v)
def zlu (dg : Nat) (near : Nat → Nat) : Nat → Nat → Nat
  | 0, u => u
  | k + 1, u => if zpc (near u) < dg then u else zlu dg near k (u + 1)
abbrev zSr : Type := Nat × (Nat → Nat) × Nat × Nat
def zlp (R : (Nat → Nat) → (Nat → Nat) → Nat → Nat → zSr) (near : Nat → Nat) (u : Nat) (cd : Nat → Bool) : Nat → Nat → (Nat → Nat) → Nat → Nat → zSr
  | 0, _, _, st, sh => (0, near, st, sh)
  | k + 1, v, shut, st, sh => if cd v then (if (R (zJn near u v) shut st sh).1 = 0 then zlp R near u cd k (v + 1) (sn shut u (shut u ||| 2 ^ v)) (R (zJn near u v) shut st sh).2.2.1 ((R (zJn near u v) shut st sh).2.2.2 + 1) else R (zJn near u v) shut st sh) else zlp R near u cd k (v + 1) shut st sh
def zgo (dg g n : Nat) : Nat → (Nat → Nat) → (Nat → Nat) → Nat → Nat → zSr
  | 0, near, _, st, sh => (2, near, st, sh)
  | d + 1, near, shut, st, sh => if 5000 ≤ st then (2, near, st, sh) else if zlu dg near n 0 = n then (1, near, st + 1, sh) else zlp (zgo dg g n d) near (zlu dg near n 0) (zcd dg g n near (shut (zlu dg near n 0)) (zlu dg near n 0)) (n - (zlu dg near n 0 + 1)) (zlu dg near n 0 + 1) shut (st + 1) sh
theorem zlu_ge {dg : Nat} {near : Nat → Nat} : ∀ k u, u ≤ zlu dg near k u ∧ zlu dg near k u ≤ u + k
  | 0, u => ⟨Nat.le_refl _, Nat.le_refl _⟩
  | k + 1, u => by
    unfold zlu
    split
    · omega
    · have := zlu_ge (dg := dg) (near := near) k (u + 1)
      omega
theorem zlu_at {dg : Nat} {near : Nat → Nat} : ∀ k u, zlu dg near k u < u + k → zpc (near (zlu dg near k u)) < dg
  | 0, u, h => by unfold zlu at h; omega
  | k + 1, u, h => by
    unfold zlu at h ⊢
    split
    · next h1 => exact h1
    · next h1 => rw [if_neg h1] at h; exact zlu_at k (u + 1) (by omega)
/-- what holds of who is joined, after so many joins -/
def zIv (dg n : Nat) (near : Nat → Nat) (δ : Nat) : Prop := (∀ v, v < n → near v < 2 ^ 14) ∧ (∀ u v, u < n → v < n → (near u).testBit v = (near v).testBit u) ∧ (∀ u v, u < n → (near u).testBit v = true → v < n) ∧ (∀ v, v < n → zpc (near v) ≤ dg) ∧ zs n (fun v => (zpc (near v) : Int)) = 2 * δ
theorem zIv_d {dg n : Nat} (hd : dg ≤ 4) (hn : n ≤ 14) {near : Nat → Nat} {δ : Nat} (h : zIv dg n near δ) : δ ≤ 28 := by
  have h1 : zs n (fun v => (zpc (near v) : Int)) ≤ zs n (fun _ => 4) := zs_le (fun v hv => by have := h.2.2.2.1 v hv; omega)
  have h2 : ∀ n : Nat, zs n (fun _ => (4 : Int)) = 4 * n := by
    intro n
    induction n with
    | zero => rfl
    | succ n ih => show zs n (fun _ => (4 : Int)) + 4 = _; rw [ih]; omega
  rw [h.2.2.2.2, h2] at h1
  omega
theorem zpc_or {x v : Nat} (hv : v < 14) (h : x.testBit v = false) : zpc (x ||| 2 ^ v) = zpc x + 1 := by
  unfold zpc
  refine zcnt_up 14 v hv h ?_ (fun w _ hw => ?_)
  · rw [zt_or]; simp
  · rw [zt_or]; simp [Ne.symm hw]
theorem zexa_mono {near : Nat → Nat} {s w : Nat} (h : s.testBit w = true) : ∀ n, (zexa near s n).testBit w = true
  | 0 => h
  | n + 1 => by
    unfold zexa
    split
    · rw [Nat.testBit_or, zexa_mono h n]; rfl
    · exact zexa_mono h n
theorem zexa_in {near : Nat → Nat} {s w u : Nat} (hu : s.testBit u = true) (h : (near u).testBit w = true) : ∀ n, u < n → (zexa near s n).testBit w = true
  | 0, hn => by omega
  | n + 1, hn => by
    unfold zexa
    by_cases e : u = n
    · subst e
      rw [if_pos hu, Nat.testBit_or, h, Bool.or_true]
    · have := zexa_in hu h n (by omega)
      split
      · rw [Nat.testBit_or, this]; rfl
      · exact this
theorem zball_mono {near : Nat → Nat} {n w : Nat} : ∀ k s, s.testBit w = true → (zball near n k s).testBit w = true
  | 0, s, h => h
  | k + 1, s, h => zball_mono k _ (zexa_mono h n)
theorem zexa_lt {near : Nat → Nat} {s : Nat} (hs : s < 2 ^ 14) : ∀ n, (∀ v, v < n → near v < 2 ^ 14) → zexa near s n < 2 ^ 14
  | 0, _ => hs
  | n + 1, h => by
    unfold zexa
    have := zexa_lt hs n (fun v hv => h v (by omega))
    split
    · exact Nat.or_lt_two_pow this (h n (by omega))
    · exact this
theorem zball_lt {near : Nat → Nat} {n : Nat} (h : ∀ v, v < n → near v < 2 ^ 14) : ∀ k s, s < 2 ^ 14 → zball near n k s < 2 ^ 14
  | 0, s, hs => hs
  | k + 1, s, hs => zball_lt h k _ (zexa_lt hs n h)
theorem zball_fix {near : Nat → Nat} {n s : Nat} (h : zexa near s n = s) : ∀ k, zball near n k s = s
  | 0 => rfl
  | k + 1 => by unfold zball; rw [h]; exact zball_fix h k
/-- a partner isn't joined yet -/
theorem zcd_new {dg g n : Nat} (hg : 3 ≤ g) {near : Nat → Nat} {sh u v : Nat} (hu : u < n) (h : zcd dg g n near sh u v = true) : (near u).testBit v = false ∧ zpc (near v) < dg ∧ v ≠ u := by
  unfold zcd at h
  simp only [Bool.and_eq_true, decide_eq_true_eq, Bool.not_eq_true'] at h
  obtain ⟨⟨⟨h1, h2⟩, _⟩, _⟩ := h
  obtain ⟨k, hk⟩ : ∃ k, g - 2 = k + 1 := ⟨g - 3, by omega⟩
  have hu2 : (2 ^ u).testBit u = true := by rw [Nat.testBit_two_pow]; simp
  refine ⟨?_, h1, ?_⟩
  · by_cases hb : (near u).testBit v = true
    · have : (zball near n (g - 2) (2 ^ u)).testBit v = true := by
        rw [hk]
        exact zball_mono k _ (zexa_in hu2 hb n hu)
      rw [this] at h2; cases h2
    · simpa using hb
  · rintro rfl
    have : (zball near n (g - 2) (2 ^ v)).testBit v = true := zball_mono _ _ hu2
    rw [this] at h2; cases h2
theorem zIv_join {dg n : Nat} (hn : n ≤ 14) {near : Nat → Nat} {δ u v : Nat} (h : zIv dg n near δ) (hu : u < n) (hv : v < n) (huv : v ≠ u) (hb : (near u).testBit v = false) (h1 : zpc (near u) < dg) (h2 : zpc (near v) < dg) : zIv dg n (zJn near u v) (δ + 1) := by
  obtain ⟨i1, i2, i3, i4, i5⟩ := h
  have hb2 : (near v).testBit u = false := by rw [← i2 u v hu hv]; exact hb
  have eu : zJn near u v u = near u ||| 2 ^ v := by unfold zJn; rw [sn_ne (Ne.symm huv), sn_at]
  have ev : zJn near u v v = near v ||| 2 ^ u := by unfold zJn; rw [sn_at]
  have eo : ∀ w, w ≠ u → w ≠ v → zJn near u v w = near w := fun w h1 h2 => by unfold zJn; rw [sn_ne h2, sn_ne h1]
  have p1 : 2 ^ v < 2 ^ 14 := Nat.pow_lt_pow_right (by decide) (by omega)
  have p2 : 2 ^ u < 2 ^ 14 := Nat.pow_lt_pow_right (by decide) (by omega)
  have tb : ∀ w x, (zJn near u v w).testBit x = ((near w).testBit x || decide (w = u ∧ x = v) || decide (w = v ∧ x = u)) := by
    intro w x
    by_cases e1 : w = u
    · subst e1
      rw [eu, zt_or]
      by_cases e2 : v = x
      · subst e2; simp
      · simp [e2, Ne.symm e2, Ne.symm huv]
    · by_cases e2 : w = v
      · subst e2
        rw [ev, zt_or]
        by_cases e3 : u = x
        · subst e3; simp
        · simp [e3, Ne.symm e3, e1]
      · rw [eo w e1 e2]; simp [e1, e2]
  refine ⟨fun w hw => ?_, fun w x hw hx => ?_, fun w x hw hwx => ?_, fun w hw => ?_, ?_⟩
  · by_cases e1 : w = u
    · subst e1; rw [eu]; exact Nat.or_lt_two_pow (i1 w hw) p1
    · by_cases e2 : w = v
      · subst e2; rw [ev]; exact Nat.or_lt_two_pow (i1 w hw) p2
      · rw [eo w e1 e2]; exact i1 w hw
  · rw [tb, tb, i2 w x hw hx]
    by_cases c1 : w = u ∧ x = v
    · simp [c1.1, c1.2]
    · by_cases c2 : w = v ∧ x = u
      · simp [c2.1, c2.2]
      · have c3 : ¬ (x = u ∧ w = v) := fun h => c2 ⟨h.2, h.1⟩
        have c4 : ¬ (x = v ∧ w = u) := fun h => c1 ⟨h.2, h.1⟩
        simp [c1, c2, c3, c4]
  · rw [tb] at hwx
    simp only [Bool.or_eq_true, decide_eq_true_eq] at hwx
    rcases hwx with (h | h) | h
    · exact i3 w x hw h
    · rw [h.2]; exact hv
    · rw [h.2]; exact hu
  · by_cases e1 : w = u
    · subst e1; rw [eu, zpc_or (by omega) hb]; omega
    · by_cases e2 : w = v
      · subst e2; rw [ev, zpc_or (by omega) hb2]; omega
      · rw [eo w e1 e2]; exact i4 w hw
  · have e1 : zs n (fun w => (zpc (zJn near u v w) : Int)) = zs n (fun w => (zpc (near w) : Int) + ((if w = u then 1 else 0) + (if w = v then 1 else 0))) := by
      refine zs_ext (fun w _ => ?_)
      by_cases c1 : w = u
      · subst c1; rw [eu, zpc_or (by omega) hb, if_pos rfl, if_neg (Ne.symm huv)]; omega
      · by_cases c2 : w = v
        · subst c2; rw [ev, zpc_or (by omega) hb2, if_neg c1, if_pos rfl]; omega
        · rw [eo w c1 c2, if_neg c1, if_neg c2]; omega
    rw [e1, zs_add, zs_add, i5, zs_one (x := u) hu (fun w _ h => if_neg h), zs_one (x := v) hv (fun w _ h => if_neg h), if_pos rfl, if_pos rfl]
    omega
/-! bits counted -/
def zbc (x : Nat) : Nat :=
  let a := x - ((x >>> 1) &&& 1431655765)
  let b := (a &&& 858993459) + ((a >>> 2) &&& 858993459)
  let c := (b + (b >>> 4)) &&& 252645135
  let d := c + (c >>> 8)
  (d + (d >>> 16)) &&& 63
theorem zbc_all : ((List.range 16384).all fun x => zbc x == zpc x) = true := by decide +kernel
theorem zbc_pc {x : Nat} (h : x < 16384) : zbc x = zpc x := by
  have := List.all_eq_true.mp zbc_all x (List.mem_range.mpr h)
  simpa using this
