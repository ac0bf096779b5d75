/-! IN LOWEST TERMS; CHANCE, MEAN -/
def gE : Nat → Nat → Nat → Option Nat
  | 0, _, _ => none
  | k + 1, a, b => if b = 0 then some a else gE k b (a % b)
theorem gE_m : ∀ {k a b g : Nat}, gE k a b = some g → gE (k + 1) a b = some g
  | 0, a, b, g, h => by cases h
  | k + 1, a, b, g, h => by
    unfold gE at h ⊢
    by_cases c : b = 0
    · rw [if_pos c] at h ⊢
      exact h
    · rw [if_neg c] at h ⊢
      exact gE_m h
theorem gE_13 {a b : Nat} (ha : a ≤ 100) (hb : b ≤ 100) : gE 13 a b = some (Nat.gcd a b) := by
  have q : (List.range 101).all (fun a => (List.range 101).all (fun b => decide (gE 13 a b = some (Nat.gcd a b)))) = true := by decide +kernel
  rw [List.all_eq_true] at q
  have q1 := q a (List.mem_range.mpr (by omega))
  rw [List.all_eq_true] at q1
  exact of_decide_eq_true (q1 b (List.mem_range.mpr (by omega)))
theorem gE_14 {a b : Nat} (hb : b ≤ 100) : gE 14 a b = some (Nat.gcd a b) := by
  unfold gE
  by_cases c : b = 0
  · rw [if_pos c, c, Nat.gcd_zero_right]
  · rw [if_neg c, gE_13 hb (by have := Nat.mod_lt a (show b > 0 by omega); omega), Nat.gcd_comm b, Nat.gcd_comm a b, Nat.gcd_rec b a]
theorem gE_15 {a b : Nat} (ha : a ≤ 100) : gE 15 a b = some (Nat.gcd a b) := by
  unfold gE
  by_cases c : b = 0
  · rw [if_pos c, c, Nat.gcd_zero_right]
  · rw [if_neg c, gE_14 (by have := Nat.mod_le a b; omega), Nat.gcd_comm b, Nat.gcd_comm a b, Nat.gcd_rec b a]
def zTen (n : Nat) : Nat := if n = 0 then 1 else if n = 1 then 10 else 100
def zLow (x : Int) (n : Nat) (w : Int) : Int := if w = 0 then x / ((Nat.gcd x.toNat (zTen n) : Nat) : Int) else (zTen n : Int) / ((Nat.gcd x.toNat (zTen n) : Nat) : Int)
theorem zTen_b {n : Nat} : 1 ≤ zTen n ∧ zTen n ≤ 100 := by
  unfold zTen
  split
  · omega
  · split <;> omega
theorem lw_30 {f : Nat} {Φ : Int → aj_M → Prop} {m : aj_M} {v0 v2 v3 : Int} {g : Nat} (h : hX11_lowest_63 f Φ v0 v2 v3 (g : Int) m) : ∀ (kk kf a b i : Nat), gE kk a b = some g → kk ≤ kf → i + kk ≤ 100 → a < 2147483648 → b < 2147483648 → hX11_lowest_30 f Φ kf v0 v2 v3 (a : Int) (b : Int) (i : Int) m
  | 0, kf, a, b, i, e, _, _, _, _ => by cases e
  | kk + 1, kf, a, b, i, e, h1, h2, h3, h4 => by
    obtain ⟨kf, rfl⟩ : ∃ k', kf = k' + 1 := ⟨kf - 1, by omega⟩
    unfold gE at e
    unfold hX11_lowest_30
    refine ⟨⟨by omega, by omega⟩, fun c => by omega, fun _ => ⟨⟨by omega, by omega⟩, fun c => ?_, fun c => ⟨⟨by omega, by omega⟩, ⟨by omega, by omega⟩, ?_⟩⟩⟩
    · rw [if_pos (by omega)] at e
      cases e
      exact h
    · rw [if_neg (by omega)] at e
      have hm := Nat.mod_lt a (show b > 0 by omega)
      have := lw_30 h kk kf b (a % b) (i + 1) e (by omega) (by omega) h4 (by omega)
      rw [show ((a % b : Nat) : Int) = (a : Int) % (b : Int) from rfl] at this
      exact this
theorem pX11_lowest {f n : Nat} {Φ : Int → aj_M → Prop} {m : aj_M} {x w : Int} (hf : 1000 ≤ f) (hx : 0 ≤ x ∧ x ≤ 24000) (hn : n ≤ 2) (hw : 0 ≤ w ∧ w ≤ 1) (h : Φ (zLow x n w) m) : wX11_lowest f Φ x (n : Int) w m := by
  obtain ⟨a, rfl⟩ : ∃ a : Nat, x = a := ⟨x.toNat, by omega⟩
  have hT := zTen_b (n := n)
  have hg := gE_15 (a := zTen n) (b := a) hT.2
  have hpos : 1 ≤ Nat.gcd (zTen n) a := Nat.gcd_pos_of_pos_left _ (by omega)
  have hle : Nat.gcd (zTen n) a ≤ zTen n := Nat.gcd_le_left _ (by omega)
  have h63 : hX11_lowest_63 f Φ (a : Int) w (zTen n : Int) ((Nat.gcd (zTen n) a : Nat) : Int) m := by
    unfold zLow at h
    rw [Int.toNat_natCast, Nat.gcd_comm a] at h
    refine ⟨⟨by omega, by omega⟩, fun _ => ⟨⟨by omega, by omega⟩, fun c => ⟨⟨by omega, by omega⟩, ⟨by omega, by omega⟩, ?_⟩, fun c => ⟨⟨by omega, by omega⟩, ⟨by omega, by omega⟩, ?_⟩⟩, fun c => by omega⟩
    · rw [if_neg c] at h
      exact h
    · rw [if_pos c] at h
      exact h
  have go := lw_30 h63 15 f (zTen n) a 0 hg (by omega) (by omega) (by omega) (by omega)
  have : n = 0 ∨ n = 1 ∨ n = 2 := by omega
  rcases this with rfl | rfl | rfl
  · exact ⟨by decide, fun c => absurd rfl c, fun _ => go⟩
  · exact ⟨by decide, fun _ => ⟨by decide, fun c => absurd rfl c, fun _ => go⟩, fun c => absurd c (by decide)⟩
  · exact ⟨by decide, fun _ => ⟨by decide, fun _ => go, fun c => absurd c (by decide)⟩, fun c => absurd c (by decide)⟩
theorem cm_6 {f : Nat} {Φ : Int → aj_M → Prop} {m : aj_M} {g : Nat} (h : Φ (g : Int) m) : ∀ (d a b : Nat), gE d a b = some g → a < 2147483648 → b < 2147483648 → rG6 f d 0 Φ (a : Int) (b : Int) m
  | 0, a, b, e, _, _ => by cases e
  | d + 1, a, b, e, h1, h2 => by
    unfold gE at e
    show wbX12_common f Φ (rG6 f d) (a : Int) (b : Int) m
    refine ⟨⟨by omega, by omega⟩, fun c => ⟨⟨by omega, by omega⟩, ⟨by omega, by omega⟩, ?_⟩, fun c => ?_⟩
    · rw [if_neg (by omega)] at e
      have hm := Nat.mod_lt a (show b > 0 by omega)
      have := cm_6 (f := f) h d b (a % b) e h2 (by omega)
      rw [show ((a % b : Nat) : Int) = (a : Int) % (b : Int) from rfl] at this
      exact this
    · rw [if_pos (by omega)] at e
      cases e
      exact h
theorem pX12_wholeOf {f n : Nat} {Φ : Int → aj_M → Prop} {m : aj_M} (hf : 10 ≤ f) (hn : n ≤ 2) (h : Φ (zTen n : Int) m) : wX12_wholeOf f Φ (n : Int) m := by
  obtain ⟨f', rfl⟩ : ∃ f', f = f' + 1 + 1 + 1 := ⟨f - 3, by omega⟩
  have : n = 0 ∨ n = 1 ∨ n = 2 := by omega
  rcases this with rfl | rfl | rfl
  · exact ⟨by decide, by decide, fun _ => h, fun c => absurd (by decide) c⟩
  · exact ⟨by decide, by decide, fun c => absurd c (by decide), fun _ => ⟨by decide, by decide, fun _ => h, fun c => absurd (by decide) c⟩⟩
  · exact ⟨by decide, by decide, fun c => absurd c (by decide), fun _ => ⟨by decide, by decide, fun c => absurd c (by decide), fun _ => ⟨by decide, by decide, fun _ => h, fun c => absurd (by decide) c⟩⟩⟩
theorem pX12_part {f n : Nat} {Φ : Int → aj_M → Prop} {m : aj_M} {x w : Int} (hf : 1000 ≤ f) (hx : 0 ≤ x ∧ x ≤ 24000) (hn : n ≤ 2) (hw : 0 ≤ w ∧ w ≤ 1) (h : Φ (zLow x n w) m) : wX12_part f Φ x (n : Int) w m := by
  obtain ⟨a, rfl⟩ : ∃ a : Nat, x = a := ⟨x.toNat, by omega⟩
  have hT := zTen_b (n := n)
  have hg : gE 16 a (zTen n) = some (Nat.gcd a (zTen n)) := gE_m (gE_m (gE_14 hT.2))
  have hpos : 1 ≤ Nat.gcd a (zTen n) := Nat.gcd_pos_of_pos_right _ (by omega)
  have hle : Nat.gcd a (zTen n) ≤ zTen n := Nat.gcd_le_right _ (by omega)
  unfold zLow at h
  rw [Int.toNat_natCast] at h
  refine ⟨⟨by omega, by omega⟩, fun c => ?_, fun c => ?_⟩
  · rw [if_neg c] at h
    exact pX12_wholeOf (by omega) hn (pX12_wholeOf (by omega) hn (cm_6 (f := f) (g := Nat.gcd a (zTen n)) ⟨⟨by omega, by omega⟩, ⟨by omega, by omega⟩, h⟩ 16 a (zTen n) hg (by omega) (by omega)))
  · rw [if_pos c] at h
    exact pX12_wholeOf (by omega) hn (cm_6 (f := f) (g := Nat.gcd a (zTen n)) ⟨⟨by omega, by omega⟩, ⟨by omega, by omega⟩, h⟩ 16 a (zTen n) hg (by omega) (by omega))
/-- the code of a refusal, else 0 -/
def zCc (k n w : Int) : Int := if 0 ≤ w ∧ w ≤ 1 then (if (1 ≤ k ∧ k ≤ 60) ∧ (0 ≤ n ∧ n ≤ 2) then 0 else -3) else -2
theorem pX11_chance {f : Nat} {Φ : Int → aj_M → Prop} {m : aj_M} {A : Nat → Int} {k n w : Int} (hf : 1000 ≤ f) (hA : wA A) (hP : wP m [1, 0] A) (hKp : wK m [1, 0] A) (hvi : ∀ k, rI (m [12, 9, 0] k)) (hS : wS m [2, 0] A) (hk : rI k) (hn : rI n) (hw : rI w) (hbad : zCc k n w ≠ 0 → Φ (zCc k n w) m) (hK : (1 ≤ k ∧ k ≤ 60) → (0 ≤ n ∧ n ≤ 2) → (0 ≤ w ∧ w ≤ 1) → ∀ m', zGs m m' A → 0 ≤ zSu k n.toNat A → zSu k n.toNat A ≤ 24000 → Φ (zLow (zSu k n.toNat A) n.toNat w) m') : wX11_chance f Φ [0] k n w m := by
  have b2 : ¬ (0 ≤ w ∧ w ≤ 1) → Φ (-2) m := fun c => by
    rw [zCc, if_neg c] at hbad
    exact hbad (by decide)
  have b3 : (0 ≤ w ∧ w ≤ 1) → ¬ ((1 ≤ k ∧ k ≤ 60) ∧ (0 ≤ n ∧ n ≤ 2)) → Φ (-3) m := fun c d => by
    rw [zCc, if_pos c, if_neg d] at hbad
    exact hbad (by decide)
  refine ⟨hw, fun c => b2 (by omega), fun c => ⟨hw, fun c1 => ⟨hk, fun d => b3 (by omega) (by omega), fun d => ⟨hk, fun d1 => b3 (by omega) (by omega), fun d1 => ⟨hn, fun e => b3 (by omega) (by omega), fun e => ⟨hn, fun e1 => ?_, fun e1 => b3 (by omega) (by omega)⟩⟩⟩⟩, fun c1 => b2 (by omega)⟩⟩
  obtain ⟨n, rfl⟩ : ∃ n' : Nat, n = n' := ⟨n.toNat, by omega⟩
  rw [Int.toNat_natCast] at hK
  refine pX11_drawn hf hA hP hKp hvi hS ⟨by omega, by omega⟩ (by omega) (fun m' g b1 b2 => ?_)
  exact pX11_lowest hf ⟨b1, b2⟩ (by omega) ⟨by omega, c1⟩ (hK ⟨by omega, by omega⟩ ⟨by omega, by omega⟩ ⟨by omega, c1⟩ m' g b1 b2)
theorem pX12_chance {f : Nat} {Φ : Int → aj_M → Prop} {m : aj_M} {A : Nat → Int} {k n w : Int} (hf : 4000 ≤ f) (hA : wA A) (hm : m [1, 1] = A) (hk : rI k) (hn : rI n) (hw : rI w) (hbad : zCc k n w ≠ 0 → Φ (zCc k n w) (rZ m)) (hb : (1 ≤ k ∧ k ≤ 60) → (0 ≤ n ∧ n ≤ 2) → (0 ≤ w ∧ w ≤ 1) → 0 ≤ zSu k n.toNat A ∧ zSu k n.toNat A ≤ 24000) (hK : (1 ≤ k ∧ k ≤ 60) → (0 ≤ n ∧ n ≤ 2) → (0 ≤ w ∧ w ≤ 1) → ∀ m', rSt m m' A → Φ (zLow (zSu k n.toNat A) n.toNat w) m') : wX12_chance f Φ [1] k n w m := by
  have st : rSt m (aj_u m [1] 0 0) A := rSt_fld (rSt_0 hm) (by decide) (by decide) (by decide)
  rintro _ rfl
  refine ⟨hw, pW12_within (rL_rI hw) (by decide) (by decide) (fun a b => zc1 ⟨hk, pW12_within (rL_rI hk) (by decide) (by decide) (fun c d => zb1 ⟨hn, pW12_within (rL_rI hn) (by decide) (by decide) (fun e g => zc1 ?_) (fun e => zc0 ?_)⟩) (fun c => zb0 ?_)⟩) (fun a => zc0 ?_)⟩
  · obtain ⟨n, rfl⟩ : ∃ n' : Nat, n = n' := ⟨n.toNat, by omega⟩
    rw [Int.toNat_natCast] at hK hb
    refine pX12_laysLots hf hA ⟨c, d⟩ (by omega) st (fun m' s1 s2 _ => ?_)
    rw [s2]
    exact pX12_part (by omega) (hb ⟨c, d⟩ ⟨e, g⟩ ⟨a, b⟩) (by omega) ⟨a, b⟩ (hK ⟨c, d⟩ ⟨e, g⟩ ⟨a, b⟩ m' s1)
  · rw [zCc, if_pos ⟨a, b⟩, if_neg (by omega)] at hbad
    exact hbad (by decide)
  · rw [zCc, if_pos ⟨a, b⟩, if_neg (by omega)] at hbad
    exact hbad (by decide)
  · rw [zCc, if_neg a] at hbad
    exact hbad (by decide)
theorem pX11_mean {f : Nat} {Φ : Int → aj_M → Prop} {m : aj_M} {A : Nat → Int} {n w : Int} (hf : 1000 ≤ f) (hA : wA A) (hP : wP m [1, 0] A) (hKp : wK m [1, 0] A) (hvi : ∀ k, rI (m [12, 9, 0] k)) (hS : wS m [2, 0] A) (hn : rI n) (hw : rI w) (hbad : zCc 1 n w ≠ 0 → Φ (zCc 1 n w) m) (hK : (0 ≤ n ∧ n ≤ 2) → (0 ≤ w ∧ w ≤ 1) → ∀ m', zGs m m' A → 0 ≤ zSu 0 n.toNat A → zSu 0 n.toNat A ≤ 24000 → Φ (zLow (zSu 0 n.toNat A) n.toNat w) m') : wX11_mean f Φ [0] n w m := by
  have b2 : ¬ (0 ≤ w ∧ w ≤ 1) → Φ (-2) m := fun c => by
    rw [zCc, if_neg c] at hbad
    exact hbad (by decide)
  have b3 : (0 ≤ w ∧ w ≤ 1) → ¬ (0 ≤ n ∧ n ≤ 2) → Φ (-3) m := fun c d => by
    rw [zCc, if_pos c, if_neg (fun x => d x.2)] at hbad
    exact hbad (by decide)
  refine ⟨hw, fun c => b2 (by omega), fun c => ⟨hw, fun c1 => ⟨hn, fun e => b3 (by omega) (by omega), fun e => ⟨hn, fun e1 => ?_, fun e1 => b3 (by omega) (by omega)⟩⟩, fun c1 => b2 (by omega)⟩⟩
  obtain ⟨n, rfl⟩ : ∃ n' : Nat, n = n' := ⟨n.toNat, by omega⟩
  rw [Int.toNat_natCast] at hK
  refine pX11_drawn hf hA hP hKp hvi hS ⟨by decide, by decide⟩ (by omega) (fun m' g b1 b2 => ?_)
  exact pX11_lowest hf ⟨b1, b2⟩ (by omega) ⟨by omega, c1⟩ (hK ⟨by omega, by omega⟩ ⟨by omega, c1⟩ m' g b1 b2)
theorem pX12_mean {f : Nat} {Φ : Int → aj_M → Prop} {m : aj_M} {A : Nat → Int} {n w : Int} (hf : 4000 ≤ f) (hA : wA A) (hm : m [1, 1] = A) (hn : rI n) (hw : rI w) (hbad : zCc 1 n w ≠ 0 → Φ (zCc 1 n w) (rZ m)) (hb : (0 ≤ n ∧ n ≤ 2) → (0 ≤ w ∧ w ≤ 1) → 0 ≤ zSu 0 n.toNat A ∧ zSu 0 n.toNat A ≤ 24000) (hK : (0 ≤ n ∧ n ≤ 2) → (0 ≤ w ∧ w ≤ 1) → ∀ m', rSt m m' A → Φ (zLow (zSu 0 n.toNat A) n.toNat w) m') : wX12_mean f Φ [1] n w m := by
  have st : rSt m (aj_u m [1] 0 0) A := rSt_fld (rSt_0 hm) (by decide) (by decide) (by decide)
  rintro _ rfl
  refine ⟨hw, pW12_within (rL_rI hw) (by decide) (by decide) (fun a b => zc1 ⟨hn, pW12_within (rL_rI hn) (by decide) (by decide) (fun e g => zc1 ?_) (fun e => zc0 ?_)⟩) (fun a => zc0 ?_)⟩
  · obtain ⟨n, rfl⟩ : ∃ n' : Nat, n = n' := ⟨n.toNat, by omega⟩
    rw [Int.toNat_natCast] at hK hb
    refine pX12_laysLots (k := 1) hf hA (by decide) (by omega) st (fun m' s1 _ s3 => ?_)
    rw [s3]
    exact pX12_part (by omega) (hb ⟨e, g⟩ ⟨a, b⟩) (by omega) ⟨a, b⟩ (hK ⟨e, g⟩ ⟨a, b⟩ m' s1)
  · rw [zCc, if_pos ⟨a, b⟩, if_neg (by omega)] at hbad
    exact hbad (by decide)
  · rw [zCc, if_neg a] at hbad
    exact hbad (by decide)
