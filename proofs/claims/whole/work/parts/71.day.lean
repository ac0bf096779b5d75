/-! DAY -/
def zHi16 (x : Int) : Int := aj_ushr x 16
theorem zHi16_b {x : Int} : 0 ≤ zHi16 x ∧ zHi16 x < 65536 := by
  unfold zHi16 aj_ushr
  have h0 : ((Int32.ofInt 16).toUInt32 &&& Int32.toUInt32 31).toNat % 32 = 16 := by decide
  have h1 : ((Int32.ofInt x).toUInt32 >>> ((Int32.ofInt 16).toUInt32 &&& Int32.toUInt32 31)).toNat = (Int32.ofInt x).toUInt32.toNat >>> 16 := by
    rw [UInt32.toNat_shiftRight, h0]
  have h2 : (Int32.ofInt x).toUInt32.toNat < 2 ^ 32 := UInt32.toNat_lt _
  have h3 : ((Int32.ofInt x).toUInt32 >>> ((Int32.ofInt 16).toUInt32 &&& Int32.toUInt32 31)).toInt32.toBitVec.toNat = (Int32.ofInt x).toUInt32.toNat >>> 16 := h1
  rw [Nat.shiftRight_eq_div_pow] at h3
  have h4 : (Int32.ofInt x).toUInt32.toNat / 2 ^ 16 < 65536 := by omega
  rw [zi_toInt (by rw [h3]; omega), h3]
  omega
def zNx (x : Int) : Int := 1103515245 * x + 12345
/-- a deed drawn, and the number to go on from -/
def zDr (x : Int) : Int × Int := if zHi16 (zNx x) % 4 = 0 then (10 + zHi16 (zNx (zNx x)) % 10, zNx (zNx x)) else if zHi16 (zNx x) % 4 = 1 then (100 + zHi16 (zNx (zNx x)) % 12, zNx (zNx x)) else (1000 + 100 * (zHi16 (zNx (zNx x)) % 12) + zHi16 (zNx (zNx (zNx x))) % 12, zNx (zNx (zNx x)))
theorem zDr_b {x : Int} : 10 ≤ (zDr x).1 ∧ (zDr x).1 ≤ 2199 := by
  unfold zDr
  split
  · show 10 ≤ 10 + zHi16 (zNx (zNx x)) % 10 ∧ 10 + zHi16 (zNx (zNx x)) % 10 ≤ 2199
    omega
  · split
    · show 10 ≤ 100 + zHi16 (zNx (zNx x)) % 12 ∧ 100 + zHi16 (zNx (zNx x)) % 12 ≤ 2199
      omega
    · show 10 ≤ 1000 + 100 * (zHi16 (zNx (zNx x)) % 12) + zHi16 (zNx (zNx (zNx x))) % 12 ∧ 1000 + 100 * (zHi16 (zNx (zNx x)) % 12) + zHi16 (zNx (zNx (zNx x))) % 12 ≤ 2199
      omega
def zDy : Nat → Int → Nat → (Nat → Int) → Nat × (Nat → Int)
  | 0, _, c, A => (c, A)
  | k + 1, x, c, A => if zWhy A (zDr x).1 = 0 then zDy k (zDr x).2 (c + 1) (zDid A (zDr x).1) else zDy k (zDr x).2 c A
theorem zDy_b : ∀ (k : Nat) (x : Int) (c : Nat) (A : Nat → Int), wA A → c ≤ (zDy k x c A).1 ∧ (zDy k x c A).1 ≤ c + k ∧ wA (zDy k x c A).2 ∧ zSg A (zDy k x c A).2 ∧ ((zDy k x c A).1 = c → (zDy k x c A).2 = A)
  | 0, x, c, A, hA => ⟨Nat.le_refl _, Nat.le_refl _, hA, zSg_rfl, fun _ => rfl⟩
  | k + 1, x, c, A, hA => by
    unfold zDy
    by_cases d : zWhy A (zDr x).1 = 0
    · rw [if_pos d]
      obtain ⟨a1, a2, a3, a4, a5⟩ := zDy_b k (zDr x).2 (c + 1) _ (zA_did hA d).1
      exact ⟨by omega, by omega, a3, zSg_tr (zSg_did hA d) a4, fun e => by omega⟩
    · rw [if_neg d]
      obtain ⟨a1, a2, a3, a4, a5⟩ := zDy_b k (zDr x).2 c _ hA
      exact ⟨a1, by omega, a3, a4, a5⟩
theorem hX11_dy {f : Nat} {Φ : Int → aj_M → Prop} {m0 : aj_M} {A : Nat → Int} {x0 : Int} {n : Nat} (hA : wA A) (hH : zHA A) (hP : wP m0 [1, 0] A) (hC : zHC m0 A) (hn : n ≤ 40) (h0 : (zDy n x0 0 A).1 = 0 → ∀ m', zo [[2, 0], [0, 2, 0], [3, 0], [0, 3, 0]] m0 m' → wS m' [2, 0] A → Φ 0 m') (h1 : (zDy n x0 0 A).1 ≠ 0 → ∀ m', zCd m0 m' (zNoA A (zDy n x0 0 A).2) → Φ ((zDy n x0 0 A).1 : Nat) m') : ∀ (k i c : Nat) (x : Int) (B : Nat → Int) (m : aj_M), i ≤ n → n - i < k → c ≤ i → zDy (n - i) x c B = zDy n x0 0 A → wA B → zSg A B → zDd m0 m A B → hX11_day_33 f Φ k [0] n x c (i : Int) m := by
  have h6 := hA.2.2.1
  obtain ⟨b1, b2, b3, b4, b5⟩ := zDy_b n x0 0 A hA
  intro k
  induction k with
  | zero => intro i c x B m a1 a2; omega
  | succ k ih =>
    intro i c x B m a1 a2 a3 e hB sg d
    refine ⟨⟨by omega, by omega⟩, ⟨by omega, by omega⟩, fun p => ⟨⟨by omega, by omega⟩, fun q => ?_, fun q => ?_⟩, fun p => ?_⟩
    · have ei : i = n := by omega
      rw [ei, Nat.sub_self] at e
      have e : (c, B) = zDy n x0 0 A := e
      have ec : c = 0 := by omega
      have e0 : (zDy n x0 0 A).1 = 0 := by rw [← e]; exact ec
      have eB := b5 e0
      rw [← e] at eB
      have eB : B = A := eB
      subst eB ec
      exact h0 e0 m d.1 d.2.1
    · have ei : i = n := by omega
      rw [ei, Nat.sub_self] at e
      have e : (c, B) = zDy n x0 0 A := e
      rw [← e] at h1
      exact pDone hA hH hC sg d (fun m3 g _ _ => h1 (by show c ≠ 0; omega) m3 g)
    · have en : n - i = (n - (i + 1)) + 1 := by omega
      rw [en, zDy] at e
      have hPB := zAg_P (zSg_Ag sg) h6.2 (zDd_P d hP)
      have u1 := zHi16_b (x := zNx x)
      have u2 := zHi16_b (x := zNx (zNx x))
      have u3 := zHi16_b (x := zNx (zNx (zNx x)))
      have body : ∀ (z x' : Int), zDr x = (z, x') → wX9_tryDeed f (fun z5 m5 => rI z5 ∧ (¬ z5 = 0 → hX11_day_33 f Φ k [0] n x' c ((i : Int) + 1) m5) ∧ (z5 = 0 → hX11_day_33 f Φ k [0] n x' ((c : Int) + 1) ((i : Int) + 1) m5)) [2, 0] [1, 0] z m := by
        intro z x' ez
        have zb := zDr_b (x := x)
        rw [ez] at e zb
        refine pX9_tryDeed hB hPB d.2.1 (by decide) ⟨by omega, by omega⟩ (fun g => ⟨zWhy_r, fun _ => ?_, fun w => absurd w g⟩) (fun g m1 z1 w1 => ⟨by decide, fun w => absurd rfl w, fun _ => ?_⟩)
        · rw [if_neg g] at e
          exact ih (i + 1) c x' B m (by omega) (by omega) (by omega) e hB sg d
        · rw [if_pos g] at e
          exact ih (i + 1) (c + 1) x' _ m1 (by omega) (by omega) (by omega) e (zA_did hB g).1 (zSg_tr sg (zSg_did hB g)) (zDd_step d z1 w1)
      have ex : ∀ y : Int, 1103515245 * y + 12345 = zNx y := fun _ => rfl
      have eh : ∀ y : Int, aj_ushr y 16 = zHi16 y := fun _ => rfl
      simp only [wX11_nextDraw, ex, eh]
      refine ⟨⟨by omega, by omega⟩, ⟨by omega, by omega⟩, fun g => ⟨⟨by omega, by omega⟩, ⟨by omega, by omega⟩, fun w => by omega, fun w => ?_⟩, fun g => ⟨⟨by omega, by omega⟩, ⟨by omega, by omega⟩, fun w => ⟨⟨by omega, by omega⟩, ?_⟩, fun w => by omega⟩, fun g => ⟨⟨by omega, by omega⟩, ⟨by omega, by omega⟩, fun w => ⟨⟨by omega, by omega⟩, ?_⟩, fun w => by omega⟩⟩
      · show (0 ≤ zHi16 (zNx (zNx (zNx x))) ∧ zHi16 (zNx (zNx (zNx x))) < 2147483648) ∧ rI (1000 + 100 * (zHi16 (zNx (zNx x)) % 12) + zHi16 (zNx (zNx (zNx x))) % 12) ∧ _
        refine ⟨⟨by omega, by omega⟩, ⟨by omega, by omega⟩, ?_⟩
        exact body _ _ (by rw [zDr, if_neg g.1, if_neg g.2])
      · exact body _ _ (by rw [zDr, if_pos g])
      · exact body _ _ (by rw [zDr, if_neg (by omega), if_pos g])
theorem pX11_day {f : Nat} {Φ : Int → aj_M → Prop} {m : aj_M} {A : Nat → Int} {x n : Int} (hf : 50 ≤ f) (hA : wA A) (hH : zHA A) (hP : wP m [1, 0] A) (hS : wS m [2, 0] A) (hC : zHC m A) (hn : rI n) (hbad : ¬ (1 ≤ n ∧ n ≤ 40) → Φ (-3) m) (h0 : 1 ≤ n → n ≤ 40 → (zDy n.toNat x 0 A).1 = 0 → ∀ m', zo [[2, 0], [0, 2, 0], [3, 0], [0, 3, 0]] m m' → wS m' [2, 0] A → Φ 0 m') (h1 : 1 ≤ n → n ≤ 40 → (zDy n.toNat x 0 A).1 ≠ 0 → ∀ m', zCd m m' (zNoA A (zDy n.toNat x 0 A).2) → Φ ((zDy n.toNat x 0 A).1 : Nat) m') : wX11_day f Φ [0] x n m := by
  refine ⟨hn, fun c => hbad (by omega), fun c => ⟨hn, fun d => ?_, fun d => hbad (by omega)⟩⟩
  refine pBegin hA hS ?_
  intro m1 z1 d1
  obtain ⟨k, rfl⟩ : ∃ k : Nat, n = k := ⟨n.toNat, by omega⟩
  rw [Int.toNat_natCast] at h0 h1
  exact hX11_dy hA hH hP hC (by omega) (h0 (by omega) d) (h1 (by omega) d) f 0 0 x A m1 (by omega) (by omega) (by omega) rfl hA zSg_rfl d1
/-- the reference -/
theorem pX12_drawn {f : Nat} {Φ : Int → aj_M → Prop} {m0 m : aj_M} {A : Nat → Int} {x : Int} (d : rDd m0 m A) (hx : m [1] 29 = x) (h : ∀ m', rDd m0 m' A → m' [1] 29 = (zDr x).2 → m' [27, 1] = m [27, 1] → Φ (zDr x).1 m') : wX12_drawn f Φ [1] m := by
  have dr : ∀ (b : Int) (m : aj_M) (x : Int) (Ψ : Int → aj_M → Prop), 0 < b → b < 100 → m [1] 29 = x → rDd m0 m A → (∀ m', rDd m0 m' A → m' [1] 29 = zNx x → m' [27, 1] = m [27, 1] → Ψ (zHi16 (zNx x) % b) m') → wX12_draw f Ψ [1] b m := by
    intro b m x Ψ hb hb2 hx d h
    rintro m1 rfl
    have e : aj_u m [1] 29 (1103515245 * m [1] 29 + 12345) [1] 29 = zNx x := by rw [zu_tup, tup_s, hx]; rfl
    have u := zHi16_b (x := zNx x)
    rw [e]
    exact ⟨⟨u.1, by show zHi16 (zNx x) < 2147483648; omega⟩, ⟨hb, by omega⟩, h _ (rDd_s (Or.inr rfl) d) e (zu_off (by decide))⟩
  refine dr 4 m x _ (by decide) (by decide) hx d ?_
  intro m1 d1 e1 w1
  refine ⟨⟨by omega, by omega⟩, fun c => ⟨⟨by omega, by omega⟩, fun c2 => ?_, fun c2 => ?_⟩, fun c => ?_⟩
  · refine dr 12 m1 _ _ (by decide) (by decide) e1 d1 ?_
    intro m2 d2 e2 w2
    refine dr 12 m2 _ _ (by decide) (by decide) e2 d2 ?_
    intro m3 d3 e3 w3
    have ez : zDr x = (1000 + 100 * (zHi16 (zNx (zNx x)) % 12) + zHi16 (zNx (zNx (zNx x))) % 12, zNx (zNx (zNx x))) := by rw [zDr, if_neg c, if_neg c2]
    rw [ez] at h
    exact h m3 d3 e3 (w3.trans (w2.trans w1))
  · refine dr 12 m1 _ _ (by decide) (by decide) e1 d1 ?_
    intro m2 d2 e2 w2
    have ez : zDr x = (100 + zHi16 (zNx (zNx x)) % 12, zNx (zNx x)) := by rw [zDr, if_neg c, if_pos c2]
    rw [ez] at h
    exact h m2 d2 e2 (w2.trans w1)
  · refine dr 10 m1 _ _ (by decide) (by decide) e1 d1 ?_
    intro m2 d2 e2 w2
    have ez : zDr x = (10 + zHi16 (zNx (zNx x)) % 10, zNx (zNx x)) := by rw [zDr, if_pos c]
    rw [ez] at h
    exact h m2 d2 e2 (w2.trans w1)
theorem hX12_dy {f : Nat} {Φ : Int → aj_M → Prop} {m0 : aj_M} {A : Nat → Int} {x0 : Int} {n : Nat} (hf : 200 ≤ f) (hA : wA A) (hH : zHA A) (hn : n ≤ 40) (h0 : (zDy n x0 0 A).1 = 0 → ∀ m', rDd m0 m' A → Φ 0 m') (h1 : (zDy n x0 0 A).1 ≠ 0 → ∀ m', rDd m0 m' (zNoA A (zDy n x0 0 A).2) → Φ ((zDy n x0 0 A).1 : Nat) m') : ∀ (k i c : Nat) (x : Int) (B : Nat → Int) (m : aj_M), i ≤ n → n - i < k → c ≤ i → zDy (n - i) x c B = zDy n x0 0 A → wA B → zSg A B → rDd m0 m B → m [1] 29 = x → (∀ k, k < 14 → m [27, 1] k = A (49 + k)) → hX12_day_34 f Φ k [1] n c (i : Int) m := by
  obtain ⟨b1, b2, b3, b4, b5⟩ := zDy_b n x0 0 A hA
  intro k
  induction k with
  | zero => intro i c x B m a1 a2; omega
  | succ k ih =>
    intro i c x B m a1 a2 a3 e hB sg d hx hW
    refine ⟨⟨by omega, by omega⟩, ⟨by omega, by omega⟩, fun p => ⟨⟨by omega, by omega⟩, fun q => ?_, fun q => ?_⟩, fun p => ?_⟩
    · have ei : i = n := by omega
      rw [ei, Nat.sub_self] at e
      have e : (c, B) = zDy n x0 0 A := e
      have ec : c = 0 := by omega
      have e0 : (zDy n x0 0 A).1 = 0 := by rw [← e]; exact ec
      have eB := b5 e0
      rw [← e] at eB
      have eB : B = A := eB
      subst eB ec
      exact h0 e0 m d
    · have ei : i = n := by omega
      rw [ei, Nat.sub_self] at e
      have e : (c, B) = zDy n x0 0 A := e
      rw [← e] at h1
      exact pNotes hf hH sg d hW (fun m3 g _ => h1 (by show c ≠ 0; omega) m3 g)
    · have en : n - i = (n - (i + 1)) + 1 := by omega
      rw [en, zDy] at e
      refine pX12_drawn d hx ?_
      intro m1 d1 e1 w1
      have zb := zDr_b (x := x)
      refine ⟨⟨by omega, by omega⟩, pX12_whyNot (by omega) hB (fun j _ => congrFun d1.2.2 j) ⟨by omega, by omega⟩ ⟨zWhy_r, fun g => ?_, fun g => ?_⟩⟩
      · rw [if_pos g] at e
        refine pX12_does hB d1.2.2 g ?_
        refine ih (i + 1) (c + 1) _ _ _ (by omega) (by omega) (by omega) e (zA_did hB g).1 (zSg_tr sg (zSg_did hB g)) (rDd_11 d1) ?_ ?_
        · rw [zm_uro (by decide)]
          exact e1
        · rw [zm_uro (by decide), w1]
          exact hW
      · rw [if_neg g] at e
        exact ih (i + 1) c _ B m1 (by omega) (by omega) (by omega) e hB sg d1 e1 (by rw [w1]; exact hW)
theorem pX12_day {f : Nat} {Φ : Int → aj_M → Prop} {m : aj_M} {A : Nat → Int} {x n : Int} (hf : 200 ≤ f) (hA : wA A) (hH : zHA A) (hm : m [1, 1] = A) (hn : rI n) (hbad : ¬ (1 ≤ n ∧ n ≤ 40) → Φ (-3) (rZ m)) (h0 : 1 ≤ n → n ≤ 40 → (zDy n.toNat x 0 A).1 = 0 → ∀ m', rDd m m' A → Φ 0 m') (h1 : 1 ≤ n → n ≤ 40 → (zDy n.toNat x 0 A).1 ≠ 0 → ∀ m', rDd m m' (zNoA A (zDy n.toNat x 0 A).2) → Φ ((zDy n.toNat x 0 A).1 : Nat) m') : wX12_day f Φ [1] x n m := by
  rintro m1 rfl
  have d1 := rDd_rZ hm
  have e1 : aj_u m [1] 0 0 [1, 1] = A := d1.2.2
  refine ⟨hn, pW12_within (rL_rI hn) (by decide) (by decide) (fun c1 c2 => zc1 ?_) (fun c => zc0 (hbad c))⟩
  refine pX12_stores (by omega) (fun W hW => ?_)
  rintro m4 rfl
  have d2 : rDd m (aj_ur (aj_u m [1] 0 0) [27, 1] W) A := rDd_27 d1
  obtain ⟨k, rfl⟩ : ∃ k : Nat, n = k := ⟨n.toNat, by omega⟩
  rw [Int.toNat_natCast] at h0 h1
  refine hX12_dy hf hA hH (by omega) (h0 c1 c2) (h1 c1 c2) f 0 0 x A _ (by omega) (by omega) (by omega) rfl hA zSg_rfl (rDd_s (Or.inr rfl) d2) (by rw [zu_tup, tup_s]) (fun k hk => ?_)
  rw [zu_off (by decide), zm_urs, hW k hk, e1]
