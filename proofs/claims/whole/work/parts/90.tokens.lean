/-! TOKENS OF THE TAPE -/
def zGo (P : Nat → Bool) : Nat → Nat → Nat
  | 0, p => p
  | k + 1, p => if P p = true then zGo P k (p + 1) else p
def zWh (P : Nat → Bool) (n p : Nat) : Nat := zGo P (n - p) p
theorem zWh_y {P : Nat → Bool} {n p : Nat} (hp : p < n) (h : P p = true) : zWh P n p = zWh P n (p + 1) := by
  unfold zWh
  rw [show n - p = (n - (p + 1)) + 1 by omega, zGo, if_pos h]
theorem zWh_n {P : Nat → Bool} {n p : Nat} (h : p < n → ¬ P p = true) : zWh P n p = p := by
  unfold zWh
  by_cases c : p < n
  · rw [show n - p = (n - (p + 1)) + 1 by omega, zGo, if_neg (h c)]
  · rw [show n - p = 0 by omega, zGo]
theorem zGo_b {P : Nat → Bool} : ∀ (k p : Nat), p ≤ zGo P k p ∧ zGo P k p ≤ p + k ∧ ∀ j, p ≤ j → j < zGo P k p → P j = true
  | 0, p => ⟨Nat.le_refl _, Nat.le_refl _, fun j h1 h2 => absurd h2 (by simp only [zGo]; omega)⟩
  | k + 1, p => by
    unfold zGo
    split
    · next h =>
      obtain ⟨h1, h2, h3⟩ := zGo_b (P := P) k (p + 1)
      refine ⟨by omega, by omega, fun j g1 g2 => ?_⟩
      by_cases e : j = p
      · rw [e]; exact h
      · exact h3 j (by omega) g2
    · exact ⟨Nat.le_refl _, by omega, fun j g1 g2 => by omega⟩
theorem zWh_b {P : Nat → Bool} {n p : Nat} (hp : p ≤ n) : p ≤ zWh P n p ∧ zWh P n p ≤ n := by
  have := zGo_b (P := P) (n - p) p
  unfold zWh
  omega
theorem zWh_in {P : Nat → Bool} {n p j : Nat} (h1 : p ≤ j) (h2 : j < zWh P n p) : P j = true := (zGo_b (P := P) (n - p) p).2.2 j h1 h2
def tWs (T : Nat → Int) (j : Nat) : Bool := decide (T j = 10 ∨ T j = 32)
def tLo (T : Nat → Int) (j : Nat) : Bool := decide (97 ≤ T j ∧ T j ≤ 122)
def tDg (T : Nat → Int) (j : Nat) : Bool := decide (48 ≤ T j ∧ T j ≤ 57)
def zSi (c : Int) : List Int → Int → Int
  | [], _ => 25
  | x :: xs, k => if c = x then k else zSi c xs (k + 1)
def tkA (T : Nat → Int) (n b : Nat) : Nat := zWh (tWs T) n b
def tkEa (T : Nat → Int) (n a : Nat) : Nat := if n ≤ a then a else if tLo T a = true then zWh (tLo T) n a else if tDg T a = true then zWh (tDg T) n a else a + 1
def tkKa (T : Nat → Int) (n a : Nat) : Int := if n ≤ a then 24 else if tLo T a = true then zWf (fun j => T (a + j)) (zWh (tLo T) n a - a) 22 zKw 0 else if tDg T a = true then (if zWh (tDg T) n a - a ≤ 3 then 23 else 25) else zSi (T a) zL1 30
def tkE (T : Nat → Int) (n b : Nat) : Nat := tkEa T n (tkA T n b)
def tkK (T : Nat → Int) (n b : Nat) : Int := tkKa T n (tkA T n b)
def tkV (T : Nat → Int) (a : Nat) : Nat → Int
  | 0 => 0
  | k + 1 => 10 * tkV T a k + T (a + k) - 48
def tkN (T : Nat → Int) (n b : Nat) : Int := tkV T (tkA T n b) (tkE T n b - tkA T n b)
theorem zSi_no {c : Int} : ∀ (xs : List Int) (k : Int), (∀ x, x ∈ xs → c ≠ x) → zSi c xs k = 25
  | [], _, _ => rfl
  | x :: xs, k, h => by
    unfold zSi
    rw [if_neg (h x (by simp)), zSi_no xs (k + 1) (fun y hy => h y (by simp [hy]))]
theorem zSi_n {c : Int} (h : ∀ i, i < 12 → zL1.getD i 0 ≠ c) : zSi c zL1 30 = 25 := zSi_no zL1 30 (fun x hx e => by
  obtain ⟨i, hi, rfl⟩ := List.mem_iff_getElem.mp hx
  refine h i hi ?_
  rw [List.getD_eq_getElem?_getD, List.getElem?_eq_getElem hi, Option.getD_some]
  exact e.symm)
theorem zSi_y {i : Nat} (hi : i < 12) : zSi (zL1.getD i 0) zL1 30 = 30 + i ∧ cT (30 + i) = zL1.getD i 0 := co_dec (N := 12) (P := fun i => zSi (zL1.getD i 0) zL1 30 = 30 + i ∧ cT (30 + i) = zL1.getD i 0) (by decide +kernel) hi
theorem zSi_b {c : Int} : zSi c zL1 30 = 25 ∨ (30 ≤ zSi c zL1 30 ∧ zSi c zL1 30 ≤ 41) := by
  by_cases h : ∃ i, i < 12 ∧ zL1.getD i 0 = c
  · obtain ⟨i, hi, rfl⟩ := h
    rw [(zSi_y hi).1]
    omega
  · exact Or.inl (zSi_n (fun i hi e => h ⟨i, hi, e⟩))
/-- what kinds there are -/
theorem tkK_b {T : Nat → Int} {n b : Nat} : (0 ≤ tkK T n b ∧ tkK T n b ≤ 25) ∨ (30 ≤ tkK T n b ∧ tkK T n b ≤ 41) := by
  unfold tkK tkKa
  split
  · omega
  · split
    · rcases zWf_b (a := fun j => T (tkA T n b + j)) (len := zWh (tLo T) n (tkA T n b) - tkA T n b) (d := 22) zKw 0 with h | h
      · omega
      · have : zKw.length = 22 := rfl
        omega
    · split
      · split <;> omega
      · have := zSi_b (c := T (tkA T n b))
        omega
theorem tkA_b {T : Nat → Int} {n b : Nat} (hb : b ≤ n) : b ≤ tkA T n b ∧ tkA T n b ≤ n := zWh_b hb
theorem tkE_b {T : Nat → Int} {n b : Nat} (hb : b ≤ n) : tkA T n b ≤ tkE T n b ∧ tkE T n b ≤ n := by
  have ha := tkA_b (T := T) hb
  unfold tkE tkEa
  split
  · omega
  · split
    · exact zWh_b (by omega)
    · split
      · exact zWh_b (by omega)
      · omega
theorem tk_more {T : Nat → Int} {n b : Nat} (hb : b ≤ n) (h : tkK T n b ≠ 24) : b < tkE T n b ∧ tkA T n b < n := by
  have ha := tkA_b (T := T) hb
  by_cases c : n ≤ tkA T n b
  · exact absurd (if_pos c) h
  · refine ⟨?_, by omega⟩
    unfold tkE tkEa
    rw [if_neg c]
    split
    · next g =>
      rw [zWh_y (by omega) g]
      have := zWh_b (P := tLo T) (n := n) (p := tkA T n b + 1) (by omega)
      omega
    · split
      · next g =>
        rw [zWh_y (by omega) g]
        have := zWh_b (P := tDg T) (n := n) (p := tkA T n b + 1) (by omega)
        omega
      · omega
theorem tkV_b {T : Nat → Int} {a : Nat} {k : Nat} (hk : k ≤ 3) (hd : ∀ j, j < k → 48 ≤ T (a + j) ∧ T (a + j) ≤ 57) : 0 ≤ tkV T a k ∧ tkV T a k ≤ 999 ∧ (k ≤ 2 → tkV T a k ≤ 99) := by
  have : k = 0 ∨ k = 1 ∨ k = 2 ∨ k = 3 := by omega
  rcases this with rfl | rfl | rfl | rfl
  · simp [tkV]
  · have h0 := hd 0 (by omega)
    simp only [tkV]
    omega
  · have h0 := hd 0 (by omega)
    have h1 := hd 1 (by omega)
    simp only [tkV]
    omega
  · have h0 := hd 0 (by omega)
    have h1 := hd 1 (by omega)
    have h2 := hd 2 (by omega)
    simp only [tkV]
    omega
theorem tkN_b {T : Nat → Int} {n b : Nat} (h : tkK T n b = 23) : 0 ≤ tkN T n b ∧ tkN T n b ≤ 999 := by
  have hE : ¬ n ≤ tkA T n b ∧ ¬ tLo T (tkA T n b) = true ∧ tDg T (tkA T n b) = true ∧ zWh (tDg T) n (tkA T n b) - tkA T n b ≤ 3 := by
    unfold tkK tkKa at h
    split at h
    · omega
    · next c =>
      split at h
      · rcases zWf_b (a := fun j => T (tkA T n b + j)) (len := zWh (tLo T) n (tkA T n b) - tkA T n b) (d := 22) zKw 0 with g | g
        · omega
        · have : zKw.length = 22 := rfl
          omega
      · next c2 =>
        split at h
        · next c3 =>
          split at h
          · next c4 => exact ⟨c, c2, c3, c4⟩
          · omega
        · have := zSi_b (c := T (tkA T n b))
          omega
  obtain ⟨c, c2, c3, c4⟩ := hE
  have e : tkE T n b = zWh (tDg T) n (tkA T n b) := by
    unfold tkE tkEa
    rw [if_neg c, if_neg c2, if_pos c3]
  unfold tkN
  rw [e]
  have := tkV_b (T := T) (a := tkA T n b) c4 (fun j hj => of_decide_eq_true (zWh_in (P := tDg T) (n := n) (p := tkA T n b) (j := tkA T n b + j) (by omega) (by omega)))
  omega
/-! the class: a step to the next token -/
theorem zch_c {c : Int} (h : 0 ≤ c ∧ c < 128) : aj_ch c = c ∧ aj_b c = c := by
  obtain ⟨k, rfl⟩ : ∃ k : Nat, c = k := ⟨c.toNat, by omega⟩
  exact co_dec (N := 128) (P := fun k => aj_ch (k : Int) = k ∧ aj_b (k : Int) = k) (by decide +kernel) (show k < 128 by omega)
theorem zL1_s {j : Nat} (h : j < 12) : aj_sb [0, 101] j = zL1.getD j 0 := co_dec (N := 12) (P := fun j => aj_sb [0, 101] j = zL1.getD j 0) (by decide +kernel) h
theorem hIdx {f : Nat} {Φ : Int → aj_M → Prop} {m : aj_M} {c : Int} (hc : rI c) (h1 : ∀ i : Nat, i < 12 → zL1.getD i 0 = c → Φ i m) (h0 : (∀ i, i < 12 → zL1.getD i 0 ≠ c) → Φ (-1) m) : ∀ (k i : Nat), i ≤ 12 → 12 - i < k → (∀ j, j < i → zL1.getD j 0 ≠ c) → hJ1_indexOfChar_4cfef_7 f Φ k 12 [0, 101] 12 c (i : Int) m := by
  intro k
  induction k with
  | zero => intro i g1 g2; omega
  | succ k ih =>
    intro i g1 g2 g3
    unfold hJ1_indexOfChar_4cfef_7
    refine ⟨⟨by omega, by omega⟩, by decide, fun d => h0 (fun j hj => g3 j (by omega)), fun d => ⟨⟨by omega, by omega⟩, ?_⟩⟩
    rw [Int.toNat_natCast, zL1_s (by omega)]
    have hb := zL1_b (show i < 12 by omega)
    refine ⟨⟨by omega, by omega⟩, hc, fun e => ?_, fun e => h1 i (by omega) e⟩
    refine ih (i + 1) (by omega) (by omega) (fun j hj => ?_)
    by_cases x : j = i
    · rw [x]; exact e
    · exact g3 j (by omega)
theorem pIdx {f : Nat} {Φ : Int → aj_M → Prop} {m : aj_M} {c : Int} (hf : 50 ≤ f) (hc : 0 ≤ c ∧ c < 128) (h1 : ∀ i : Nat, i < 12 → zL1.getD i 0 = c → Φ i m) (h0 : (∀ i, i < 12 → zL1.getD i 0 ≠ c) → Φ (-1) m) : wJ0_indexOf_0f7a4 f Φ [101] c m := by
  unfold wJ0_indexOf_0f7a4 wJ0_indexOf_7cf53 wJ0_isLatin1_aae02
  refine ⟨rfl, pLen1 ?_⟩
  unfold wJ1_indexOf_4cfef wJ1_canEncode_9a6ad
  rw [show aj_sl [101] = 12 by decide +kernel]
  refine ⟨⟨by omega, by omega⟩, fun d => by omega, fun _ => ⟨⟨by omega, by omega⟩, fun d => by omega, fun _ => ⟨by decide, fun _ => ⟨by decide, by decide, by decide, by decide, by decide, fun _ => ?_, fun d => absurd (by decide) d⟩, fun d => absurd d (by decide)⟩⟩⟩
  unfold wJ1_indexOfChar_4cfef
  rw [(zch_c hc).2]
  exact hIdx (f := f) ⟨by omega, by omega⟩ h1 h0 f 0 (by omega) (by omega) (fun j hj => absurd hj (by omega))
theorem zSb_c {v : Int} (h : 0 ≤ v ∧ v < 256) : (v < 128 ∧ zSb v = v) ∨ (128 ≤ v ∧ zSb v = v - 256) := by
  unfold zSb
  split <;> omega
/-- the row of the reader behind a step -/
def tkC (R : Nat → Int) (T : Nat → Int) (n b : Nat) : Prop := R 5 = tkA T n b ∧ R 6 = tkE T n b ∧ R 7 = cT (tkK T n b) ∧ (tkK T n b = 23 → R 8 = tkN T n b)
def tkS (R R0 : Nat → Int) : Prop := ∀ j, j < 5 ∨ 8 < j → R j = R0 j
theorem tkS_up {R R0 : Nat → Int} {j : Nat} {v : Int} (h : tkS R R0) (hj : 5 ≤ j ∧ j ≤ 8) : tkS (tup R j v) R0 := fun k hk => by rw [tup_o (by omega)]; exact h k hk
section TKC
variable {f : Nat} {Φ : aj_M → Prop} {m : aj_M} {T R0 : Nat → Int} {n b : Nat}
theorem hX7_s247 (hf : 200 ≤ f) (hT : ∀ j, 0 ≤ T j ∧ T j < 256) (hn : n ≤ 900) (htx : ∀ j, j < n → m [0, 0, 0] j = zSb (T j)) (hK : ∀ R, tkS R R0 → tkC R T n b → Φ (aj_ur m [0, 0] R)) {a : Nat} (ea : tkA T n b = a) (han : a < n) (hlo : ¬ tLo T a = true) (hdg : ¬ tDg T a = true) {R : Nat → Int} (hs : tkS R R0) (h5 : R 5 = a) : hX7_step_247 f Φ [0, 0] a (aj_ur m [0, 0] R) := by
  have e1 : aj_ur m [0, 0] R [0, 0, 0] = m [0, 0, 0] := zm_uro (by decide)
  have hTa := hT a
  have eE : tkE T n b = a + 1 := by
    unfold tkE tkEa
    rw [ea, if_neg (by omega), if_neg hlo, if_neg hdg]
  have eK : tkK T n b = zSi (T a) zL1 30 := by
    unfold tkK tkKa
    rw [ea, if_neg (by omega), if_neg hlo, if_neg hdg]
  have n23 : tkK T n b ≠ 23 := by
    rw [eK]
    have := zSi_b (c := T a)
    omega
  have fin : ∀ v : Int, v = cT (tkK T n b) → Φ (aj_u (aj_u (aj_ur m [0, 0] R) [0, 0] 7 v) [0, 0] 6 ((a : Int) + 1)) := by
    intro v hv
    rw [zm_urt, zm_urt]
    refine hK _ (tkS_up (tkS_up hs (by omega)) (by omega)) ⟨?_, ?_, ?_, fun e => absurd e n23⟩
    · rw [tup_o (by omega), tup_o (by omega), h5, ea]
    · rw [tup_s, eE]
      omega
    · rw [tup_o (by omega), tup_s, hv]
  unfold hX7_step_247
  rw [Int.toNat_natCast, e1, htx a han]
  have hz := zSb_c hTa
  refine ⟨⟨by omega, by omega⟩, ⟨by omega, by omega⟩, fun c => ?_, fun c => ⟨⟨by omega, by omega⟩, ?_⟩⟩
  · have e25 : zSi (T a) zL1 30 = 25 := zSi_n (fun i hi e => by
      have q : ∀ i, i < 12 → 0 < zL1.getD i 0 := fun i hi => co_dec (N := 12) (P := fun i => 0 < zL1.getD i 0) (by decide) hi
      have := zL1_b hi
      have := q i hi
      omega)
    rintro _ rfl
    rintro _ rfl
    refine fin 0 ?_
    rw [eK, e25]
    rfl
  · have ez : zSb (T a) = T a := by omega
    rw [ez, (zch_c ⟨by omega, by omega⟩).1]
    refine pIdx (by omega) ⟨by omega, by omega⟩ (fun i hi e => ⟨⟨by omega, by omega⟩, fun d => by omega, fun _ => ⟨⟨by omega, by omega⟩, ?_⟩⟩) (fun g => ⟨by decide, fun _ => ?_, fun d => absurd (by decide) d⟩)
    · rw [e1, htx a han, ez]
      rintro _ rfl
      rintro _ rfl
      refine fin (T a) ?_
      rw [eK, ← e, (zSi_y hi).1, (zSi_y hi).2]
    · rintro _ rfl
      rintro _ rfl
      refine fin 0 ?_
      rw [eK, zSi_n g]
      rfl
theorem hX7_s89 (hf : 1000 ≤ f) (hT : ∀ j, 0 ≤ T j ∧ T j < 256) (hn : n ≤ 900) (htx : ∀ j, j < n → m [0, 0, 0] j = zSb (T j)) (hK : ∀ R, tkS R R0 → tkC R T n b → Φ (aj_ur m [0, 0] R)) {a : Nat} (ea : tkA T n b = a) (han : a < n) (hlo : tLo T a = true) {R : Nat → Int} (hs : tkS R R0) (h2 : R 2 = n) (h5 : R 5 = a) : ∀ (k p : Nat), a ≤ p → p ≤ n → n - p < k → zWh (tLo T) n p = zWh (tLo T) n a → hX7_step_89 f Φ k [0, 0] p (aj_ur m [0, 0] R) := by
  have e1 : aj_ur m [0, 0] R [0, 0, 0] = m [0, 0, 0] := zm_uro (by decide)
  have eE : tkE T n b = zWh (tLo T) n a := by
    unfold tkE tkEa
    rw [ea, if_neg (by omega), if_pos hlo]
  have eK : tkK T n b = zWf (fun j => T (a + j)) (zWh (tLo T) n a - a) 22 zKw 0 := by
    unfold tkK tkKa
    rw [ea, if_neg (by omega), if_pos hlo]
  have n23 : tkK T n b ≠ 23 := by
    rw [eK]
    rcases zWf_b (a := fun j => T (a + j)) (len := zWh (tLo T) n a - a) (d := 22) zKw 0 with g | g
    · omega
    · have : zKw.length = 22 := rfl
      omega
  have fin : ∀ p : Nat, a ≤ p → p ≤ n → zWh (tLo T) n a = p → wX7_wordToken f (fun z1 m1 => ∀ m2, m2 = aj_u m1 [0, 0] 7 z1 → ∀ m3, m3 = aj_u m2 [0, 0] 6 p → Φ m3) [0, 0] ((p : Int) - R 5) (aj_ur m [0, 0] R) := by
    intro p h1 h2 h3
    have hin : ∀ j, j < p - a → 97 ≤ T (a + j) ∧ T (a + j) ≤ 122 := fun j hj => of_decide_eq_true (zWh_in (P := tLo T) (n := n) (p := a) (j := a + j) (by omega) (by omega))
    refine pX7_wordToken (a := fun j => T (a + j)) (len := p - a) (at' := a) (by omega) (by rw [h5]; omega) (by rw [zm_urs]; exact h5) (by omega) (fun j hj => ?_) (fun j hj => ?_) ?_
    · rw [e1, htx _ (by omega)]
      have := hin j hj
      have := zSb_c (hT (a + j))
      omega
    · have := hin j hj
      exact ⟨by omega, by omega⟩
    · rintro _ rfl
      rintro _ rfl
      rw [zm_urt, zm_urt]
      refine hK _ (tkS_up (tkS_up hs (by omega)) (by omega)) ⟨?_, ?_, ?_, fun e => absurd e n23⟩
      · rw [tup_o (by omega), tup_o (by omega), h5, ea]
      · rw [tup_s, eE, h3]
      · rw [tup_o (by omega), tup_s, eK, h3]
  intro k
  induction k with
  | zero => intro p g1 g2 g3; omega
  | succ k ih =>
    intro p g1 g2 g3 g4
    unfold hX7_step_89
    rw [zm_urs, h2, Int.toNat_natCast, e1]
    refine ⟨⟨by omega, by omega⟩, ⟨by omega, by omega⟩, fun c => fin p g1 g2 ?_, fun c => ⟨⟨by omega, by omega⟩, ?_⟩⟩
    · rw [← g4, zWh_n (fun x => by omega)]
    · rw [htx p (by omega)]
      have hz := zSb_c (hT p)
      have hTp := hT p
      refine ⟨⟨by omega, by omega⟩, fun d => fin p g1 g2 ?_, fun d => ⟨⟨by omega, by omega⟩, ⟨by omega, by omega⟩, fun e => fin p g1 g2 ?_, fun e => ?_⟩⟩
      · rw [← g4, zWh_n (fun x y => by have := of_decide_eq_true y; omega)]
      · rw [← g4, zWh_n (fun x y => by have := of_decide_eq_true y; omega)]
      · refine ih (p + 1) (by omega) (by omega) (by omega) ?_
        rw [← zWh_y (by omega) (decide_eq_true ⟨by omega, by omega⟩)]
        exact g4
theorem hX7_s164 (hf : 1000 ≤ f) (hT : ∀ j, 0 ≤ T j ∧ T j < 256) (hn : n ≤ 900) (htx : ∀ j, j < n → m [0, 0, 0] j = zSb (T j)) (hK : ∀ R, tkS R R0 → tkC R T n b → Φ (aj_ur m [0, 0] R)) {a : Nat} (ea : tkA T n b = a) (han : a < n) (hlo : ¬ tLo T a = true) (hdg : tDg T a = true) : ∀ (k d : Nat) (R : Nat → Int), tkS R R0 → R 2 = n → R 5 = a → a + d ≤ n → n - (a + d) < k → zWh (tDg T) n (a + d) = zWh (tDg T) n a → (∀ j, j < d → 48 ≤ T (a + j) ∧ T (a + j) ≤ 57) → (0 ≤ R 8 ∧ R 8 ≤ 9999) → (d ≤ 3 → R 8 = tkV T a d) → hX7_step_164 f Φ k [0, 0] ((a + d : Nat) : Int) (aj_ur m [0, 0] R) := by
  have eE : tkE T n b = zWh (tDg T) n a := by
    unfold tkE tkEa
    rw [ea, if_neg (by omega), if_neg hlo, if_pos hdg]
  have eK : tkK T n b = if zWh (tDg T) n a - a ≤ 3 then 23 else 25 := by
    unfold tkK tkKa
    rw [ea, if_neg (by omega), if_neg hlo, if_pos hdg]
  have fin : ∀ (d : Nat) (R : Nat → Int), tkS R R0 → R 5 = a → a + d ≤ n → zWh (tDg T) n a = a + d → (d ≤ 3 → R 8 = tkV T a d) → hX7_step_225 f Φ [0, 0] ((a + d : Nat) : Int) (aj_ur m [0, 0] R) := by
    intro d R hs h5 hd h3 hv
    unfold hX7_step_225
    rw [zm_urs, h5]
    refine ⟨⟨by omega, by omega⟩, fun c => ?_, fun c => ?_⟩
    · rintro _ rfl
      rintro _ rfl
      rw [zm_urt, zm_urt]
      have e25 : tkK T n b = 25 := by rw [eK, if_neg (by omega)]
      refine hK _ (tkS_up (tkS_up hs (by omega)) (by omega)) ⟨?_, ?_, ?_, fun e => by omega⟩
      · rw [tup_o (by omega), tup_o (by omega), h5, ea]
      · rw [tup_s, eE, h3]
      · rw [tup_o (by omega), tup_s, e25]
        rfl
    · rintro _ rfl
      rintro _ rfl
      rw [zm_urt, zm_urt]
      have e23 : tkK T n b = 23 := by rw [eK, if_pos (by omega)]
      refine hK _ (tkS_up (tkS_up hs (by omega)) (by omega)) ⟨?_, ?_, ?_, fun _ => ?_⟩
      · rw [tup_o (by omega), tup_o (by omega), h5, ea]
      · rw [tup_s, eE, h3]
      · rw [tup_o (by omega), tup_s, e23]
        rfl
      · rw [tup_o (by omega), tup_o (by omega), hv (by omega)]
        unfold tkN
        rw [eE, ea, h3, show a + d - a = d by omega]
  intro k
  induction k with
  | zero => intro d R _ _ _ g2 g3; omega
  | succ k ih =>
    intro d R hs h2 h5 g2 g3 g4 gd g8 gv
    have e1 : aj_ur m [0, 0] R [0, 0, 0] = m [0, 0, 0] := zm_uro (by decide)
    unfold hX7_step_164
    rw [zm_urs, h2, Int.toNat_natCast, e1]
    refine ⟨⟨by omega, by omega⟩, ⟨by omega, by omega⟩, fun c => fin d R hs h5 g2 ?_ gv, fun c => ⟨⟨by omega, by omega⟩, ?_⟩⟩
    · rw [← g4, zWh_n (fun x => by omega)]
    · rw [htx (a + d) (by omega)]
      have hz := zSb_c (hT (a + d))
      have hTp := hT (a + d)
      refine ⟨⟨by omega, by omega⟩, fun c1 => fin d R hs h5 g2 ?_ gv, fun c1 => ⟨⟨by omega, by omega⟩, ⟨by omega, by omega⟩, fun c2 => fin d R hs h5 g2 ?_ gv, fun c2 => ⟨⟨by omega, by omega⟩, ⟨by omega, by omega⟩, ?_⟩⟩⟩
      · rw [← g4, zWh_n (fun x y => by have := of_decide_eq_true y; omega)]
      · rw [← g4, zWh_n (fun x y => by have := of_decide_eq_true y; omega)]
      · rintro _ rfl
        rw [zm_urt, show (((a + d : Nat) : Int) + 1) = ((a + (d + 1) : Nat) : Int) by omega]
        refine ih (d + 1) _ (tkS_up hs (by omega)) (by rw [tup_o (by omega)]; exact h2) (by rw [tup_o (by omega)]; exact h5) (by omega) (by omega) ?_ (fun j hj => ?_) ?_ (fun hd => ?_)
        · rw [← g4, zWh_y (p := a + d) (by omega) (decide_eq_true ⟨by omega, by omega⟩)]
          rfl
        · by_cases e : j = d
          · subst e; omega
          · exact gd j (by omega)
        · rw [tup_s]
          omega
        · rw [tup_s]
          have hb := tkV_b (T := T) (a := a) (show d ≤ 3 by omega) gd
          have e := gv (by omega)
          have h99 := hb.2.2 (by omega)
          show _ = 10 * tkV T a d + T (a + d) - 48
          omega
theorem pX7_stepR (hf : 1000 ≤ f) (hT : ∀ j, 0 ≤ T j ∧ T j < 256) (hn : n ≤ 900) (hb : b ≤ n) (htx : ∀ j, j < n → m [0, 0, 0] j = zSb (T j)) (h2 : m [0, 0] 2 = n) (h6 : m [0, 0] 6 = b) (hK : ∀ R, tkS R (m [0, 0]) → tkC R T n b → Φ (aj_ur m [0, 0] R)) : wX7_step f Φ [0, 0] m := by
  have at41 : ∀ a : Nat, a ≤ n → tkA T n b = a → hX7_step_41 f Φ [0, 0] (a : Int) m := by
    intro a han ea
    unfold hX7_step_41
    rintro _ rfl
    rintro _ rfl
    have e0 : aj_u (aj_u m [0, 0] 5 (a : Int)) [0, 0] 8 0 = aj_ur m [0, 0] (tup (tup (m [0, 0]) 5 a) 8 0) := by
      rw [zu_ur1 (m := m) (p := [0, 0]) rfl, zm_urt]
    rw [e0]
    have e1 : ∀ R, aj_ur m [0, 0] R [0, 0, 0] = m [0, 0, 0] := fun R => zm_uro (by decide)
    have hs : tkS (tup (tup (m [0, 0]) 5 (a : Int)) 8 0) (m [0, 0]) := tkS_up (tkS_up (fun _ _ => rfl) (by omega)) (by omega)
    have g2 : tup (tup (m [0, 0]) 5 (a : Int)) 8 0 2 = n := by rw [tup_o (by omega), tup_o (by omega)]; exact h2
    have g5 : tup (tup (m [0, 0]) 5 (a : Int)) 8 0 5 = a := by rw [tup_o (by omega), tup_s]
    have g8 : tup (tup (m [0, 0]) 5 (a : Int)) 8 0 8 = 0 := tup_s
    generalize tup (tup (m [0, 0]) 5 (a : Int)) 8 0 = R at hs g2 g5 g8
    rw [zm_urs, g2, Int.toNat_natCast, e1]
    refine ⟨⟨by omega, by omega⟩, ⟨by omega, by omega⟩, fun c => ⟨⟨by omega, by omega⟩, ?_⟩, fun c => ?_⟩
    · rw [htx a (by omega)]
      have hz := zSb_c (hT a)
      have hTa := hT a
      have s247 : ¬ tLo T a = true → ¬ tDg T a = true → hX7_step_247 f Φ [0, 0] (a : Int) (aj_ur m [0, 0] R) := fun x y => hX7_s247 (by omega) hT hn htx hK ea (by omega) x y hs g5
      have nlo : (T a < 97 ∨ 122 < T a) → ¬ tLo T a = true := fun x y => by
        have := of_decide_eq_true y
        omega
      have ndg : (T a < 48 ∨ 57 < T a) → ¬ tDg T a = true := fun x y => by
        have := of_decide_eq_true y
        omega
      have s164 : ¬ tLo T a = true → tDg T a = true → hX7_step_164 f Φ f [0, 0] (a : Int) (aj_ur m [0, 0] R) := fun x y => hX7_s164 hf hT hn htx hK ea (by omega) x y f 0 R hs g2 g5 (by omega) (by omega) rfl (fun j hj => absurd hj (by omega)) (by omega) (fun _ => by rw [g8]; rfl)
      have sign : (T a < 97 ∨ 122 < T a) → rI (zSb (T a)) ∧ (zSb (T a) < 48 → hX7_step_247 f Φ [0, 0] (a : Int) (aj_ur m [0, 0] R)) ∧ (¬ (zSb (T a) < 48) → (0 ≤ (a : Int) ∧ (a : Int) < 900) ∧ rI (zSb (T a)) ∧ (57 < zSb (T a) → hX7_step_247 f Φ [0, 0] (a : Int) (aj_ur m [0, 0] R)) ∧ (¬ (57 < zSb (T a)) → hX7_step_164 f Φ f [0, 0] (a : Int) (aj_ur m [0, 0] R))) := by
        intro x
        refine ⟨⟨by omega, by omega⟩, fun d => s247 (nlo x) (ndg (by omega)), fun d => ⟨⟨by omega, by omega⟩, ⟨by omega, by omega⟩, fun e => s247 (nlo x) (ndg (by omega)), fun e => s164 (nlo x) (decide_eq_true ⟨by omega, by omega⟩)⟩⟩
      refine ⟨⟨by omega, by omega⟩, fun d => ⟨⟨by omega, by omega⟩, sign (by omega)⟩, fun d => ⟨⟨by omega, by omega⟩, ⟨by omega, by omega⟩, fun e => ⟨⟨by omega, by omega⟩, sign (by omega)⟩, fun e => ?_⟩⟩
      exact hX7_s89 hf hT hn htx hK ea (by omega) (decide_eq_true ⟨by omega, by omega⟩) hs g2 g5 f a (by omega) (by omega) (by omega) rfl
    · rintro _ rfl
      rintro _ rfl
      rw [zm_urt, zm_urt]
      have eK : tkK T n b = 24 := by
        unfold tkK tkKa
        rw [ea, if_pos (by omega)]
      refine hK _ (tkS_up (tkS_up hs (by omega)) (by omega)) ⟨?_, ?_, ?_, fun e => by omega⟩
      · rw [tup_o (by omega), tup_o (by omega), g5, ea]
      · rw [tup_s]
        unfold tkE tkEa
        rw [ea, if_pos (by omega)]
      · rw [tup_o (by omega), tup_s, eK]
        rfl
  have loop : ∀ (k p : Nat), b ≤ p → p ≤ n → n - p < k → zWh (tWs T) n p = tkA T n b → hX7_step_5 f Φ k [0, 0] (p : Int) m := by
    intro k
    induction k with
    | zero => intro p g1 g2 g3; omega
    | succ k ih =>
      intro p g1 g2 g3 g4
      unfold hX7_step_5
      rw [h2, Int.toNat_natCast]
      refine ⟨⟨by omega, by omega⟩, ⟨by omega, by omega⟩, fun c => at41 p g2 ?_, fun c => ⟨⟨by omega, by omega⟩, ?_⟩⟩
      · rw [← g4, zWh_n (fun x => by omega)]
      · rw [htx p (by omega)]
        have hz := zSb_c (hT p)
        have hTp := hT p
        refine ⟨⟨by omega, by omega⟩, fun d => ?_, fun d => ⟨⟨by omega, by omega⟩, ⟨by omega, by omega⟩, fun e => at41 p g2 ?_, fun e => ?_⟩⟩
        · refine ih (p + 1) (by omega) (by omega) (by omega) ?_
          rw [← zWh_y (by omega) (decide_eq_true (Or.inl (by omega)))]
          exact g4
        · rw [← g4, zWh_n (fun x y => by have := of_decide_eq_true y; omega)]
        · refine ih (p + 1) (by omega) (by omega) (by omega) ?_
          rw [← zWh_y (by omega) (decide_eq_true (Or.inr (by omega)))]
          exact g4
  unfold wX7_step
  rw [h6]
  exact loop f b (by omega) hb (by omega) rfl
end TKC
