/-! THE SEARCH: the class -/
theorem zi_ushr {n i : Nat} (hn : n < 2 ^ 31) (hi : i < 32) : aj_ushr (n : Int) (i : Int) = ((n >>> i : Nat) : Int) := by
  unfold aj_ushr
  rw [zi_of hn, zi_of (show i < 2 ^ 31 by omega)]
  have h0 : ((nI i).toUInt32 &&& Int32.toUInt32 31).toNat % 32 = i := co_dec (N := 32) (P := fun i => ((nI i).toUInt32 &&& Int32.toUInt32 31).toNat % 32 = i) (by decide +kernel) hi
  have h1 : ((nI n).toUInt32 >>> ((nI i).toUInt32 &&& Int32.toUInt32 31)).toNat = n >>> i := by
    rw [UInt32.toNat_shiftRight, h0]
    have : (nI n).toUInt32.toNat = n := pk_tn (by omega)
    rw [this]
  have h2 : n >>> i ≤ n := by rw [Nat.shiftRight_eq_div_pow]; exact Nat.div_le_self _ _
  have h3 : ((nI n).toUInt32 >>> ((nI i).toUInt32 &&& Int32.toUInt32 31)).toInt32.toBitVec.toNat = n >>> i := h1
  rw [zi_toInt (by rw [h3]; omega), h3]
theorem pJ6_bitCount {f : Nat} {Φ : Int → aj_M → Prop} {x : Nat} {m : aj_M} (hx : x < 16384) (h : Φ (zpc x) m) : wJ6_bitCount_0f7a4 f Φ x m := by
  rw [← zbc_pc hx] at h
  unfold wJ6_bitCount_0f7a4
  have i1 : ((1 : Nat) : Int) = 1 := rfl
  have e1 : aj_and (aj_ushr (x : Int) 1) 1431655765 = (((x >>> 1) &&& 1431655765 : Nat) : Int) := by
    rw [show (1 : Int) = ((1 : Nat) : Int) from rfl, zi_ushr (by omega) (by omega), show (1431655765 : Int) = ((1431655765 : Nat) : Int) from rfl, zi_and (by rw [Nat.shiftRight_eq_div_pow]; omega) (by decide)]
  have l1 : (x >>> 1) &&& 1431655765 ≤ x := Nat.le_trans Nat.and_le_left (by rw [Nat.shiftRight_eq_div_pow]; exact Nat.div_le_self _ _)
  rw [e1]
  obtain ⟨a, ha⟩ : ∃ a, a = x - ((x >>> 1) &&& 1431655765) := ⟨_, rfl⟩
  have ea : (x : Int) - (((x >>> 1) &&& 1431655765 : Nat) : Int) = (a : Int) := by rw [ha]; omega
  have la : a < 16384 := by omega
  rw [ea]
  have e2 : aj_and (a : Int) 858993459 = ((a &&& 858993459 : Nat) : Int) := by
    rw [show (858993459 : Int) = ((858993459 : Nat) : Int) from rfl, zi_and (by omega) (by decide)]
  have e3 : aj_and (aj_ushr (a : Int) 2) 858993459 = (((a >>> 2) &&& 858993459 : Nat) : Int) := by
    rw [show (2 : Int) = ((2 : Nat) : Int) from rfl, zi_ushr (by omega) (by omega), show (858993459 : Int) = ((858993459 : Nat) : Int) from rfl, zi_and (by rw [Nat.shiftRight_eq_div_pow]; omega) (by decide)]
  rw [e2, e3]
  obtain ⟨b, hb⟩ : ∃ b, b = (a &&& 858993459) + ((a >>> 2) &&& 858993459) := ⟨_, rfl⟩
  have eb : ((a &&& 858993459 : Nat) : Int) + (((a >>> 2) &&& 858993459 : Nat) : Int) = (b : Int) := by rw [hb]; omega
  have lb : b < 32768 := by
    have h1 : a &&& 858993459 ≤ a := Nat.and_le_left
    have h2 : (a >>> 2) &&& 858993459 ≤ a := Nat.le_trans Nat.and_le_left (by rw [Nat.shiftRight_eq_div_pow]; exact Nat.div_le_self _ _)
    omega
  rw [eb]
  have e4 : aj_ushr (b : Int) 4 = ((b >>> 4 : Nat) : Int) := by
    rw [show (4 : Int) = ((4 : Nat) : Int) from rfl, zi_ushr (by omega) (by omega)]
  have l4 : b >>> 4 ≤ b := by rw [Nat.shiftRight_eq_div_pow]; exact Nat.div_le_self _ _
  have e5 : aj_and ((b : Int) + ((b >>> 4 : Nat) : Int)) 252645135 = (((b + (b >>> 4)) &&& 252645135 : Nat) : Int) := by
    rw [show (b : Int) + ((b >>> 4 : Nat) : Int) = ((b + (b >>> 4) : Nat) : Int) by omega, show (252645135 : Int) = ((252645135 : Nat) : Int) from rfl, zi_and (by omega) (by decide)]
  rw [e4, e5]
  obtain ⟨c, hc⟩ : ∃ c, c = (b + (b >>> 4)) &&& 252645135 := ⟨_, rfl⟩
  rw [← hc]
  have lc : c < 65536 := by
    have : c ≤ b + (b >>> 4) := by rw [hc]; exact Nat.and_le_left
    omega
  have e6 : aj_ushr (c : Int) 8 = ((c >>> 8 : Nat) : Int) := by
    rw [show (8 : Int) = ((8 : Nat) : Int) from rfl, zi_ushr (by omega) (by omega)]
  have l6 : c >>> 8 ≤ c := by rw [Nat.shiftRight_eq_div_pow]; exact Nat.div_le_self _ _
  rw [e6]
  obtain ⟨d, hd⟩ : ∃ d, d = c + (c >>> 8) := ⟨_, rfl⟩
  have ed : (c : Int) + ((c >>> 8 : Nat) : Int) = (d : Int) := by rw [hd]; omega
  rw [ed]
  have e7 : aj_ushr (d : Int) 16 = ((d >>> 16 : Nat) : Int) := by
    rw [show (16 : Int) = ((16 : Nat) : Int) from rfl, zi_ushr (by omega) (by omega)]
  have l7 : d >>> 16 ≤ d := by rw [Nat.shiftRight_eq_div_pow]; exact Nat.div_le_self _ _
  have e8 : aj_and ((d : Int) + ((d >>> 16 : Nat) : Int)) 63 = (((d + (d >>> 16)) &&& 63 : Nat) : Int) := by
    rw [show (d : Int) + ((d >>> 16 : Nat) : Int) = ((d + (d >>> 16) : Nat) : Int) by omega, show (63 : Int) = ((63 : Nat) : Int) from rfl, zi_and (by omega) (by decide)]
  rw [e7, e8]
  have ez : zbc x = (d + (d >>> 16)) &&& 63 := by
    show (let a := x - ((x >>> 1) &&& 1431655765); let b := (a &&& 858993459) + ((a >>> 2) &&& 858993459); let c := (b + (b >>> 4)) &&& 252645135; let d := c + (c >>> 8); (d + (d >>> 16)) &&& 63) = _
    simp only [← ha, ← hb, ← hc, ← hd]
  rwa [ez] at h
theorem zpc_le {x : Nat} : zpc x ≤ 14 := zcnt_le 14
/-- the hunt's cells -/
def hT (m : aj_M) (o st' sh : Int) (NR SR : Nat → Int) : aj_M := aj_ur (aj_ur (aj_ur m [10, 0] (st (st (st (m [10, 0]) 3 o) 4 st') 5 sh)) [6, 10, 0] NR) [7, 10, 0] SR
theorem hT_off {m : aj_M} {r : List Nat} {o s h : Int} {NR SR : Nat → Int} (h0 : r ≠ [10, 0]) (h6 : r ≠ [6, 10, 0]) (h7 : r ≠ [7, 10, 0]) : hT m o s h NR SR r = m r := by simp [hT, zr_ur, h0, h6, h7]
theorem hT_q {m : aj_M} {o s h : Int} {NR SR : Nat → Int} : hT m o s h NR SR [10, 0] = st (st (st (m [10, 0]) 3 o) 4 s) 5 h := by simp [hT, zr_ur]
theorem hT_6 {m : aj_M} {o s h : Int} {NR SR : Nat → Int} : hT m o s h NR SR [6, 10, 0] = NR := by simp [hT, zr_ur]
theorem hT_7 {m : aj_M} {o s h : Int} {NR SR : Nat → Int} : hT m o s h NR SR [7, 10, 0] = SR := by simp [hT, zr_ur]
theorem hT_w6 {m : aj_M} {o s h x : Int} {NR SR : Nat → Int} {j : Nat} : aj_u (hT m o s h NR SR) [6, 10, 0] j x = hT m o s h (st NR j x) SR := by simp [hT, zu_push]
theorem hT_w7 {m : aj_M} {o s h x : Int} {NR SR : Nat → Int} {j : Nat} : aj_u (hT m o s h NR SR) [7, 10, 0] j x = hT m o s h NR (st SR j x) := by simp [hT, zu_push]
theorem hT_w3 {m : aj_M} {o s h x : Int} {NR SR : Nat → Int} : aj_u (hT m o s h NR SR) [10, 0] 3 x = hT m x s h NR SR := by
  have e : st (st (st (st (m [10, 0]) 3 o) 4 s) 5 h) 3 x = st (st (st (m [10, 0]) 3 x) 4 s) 5 h := by
    funext k
    simp only [st]
    by_cases e3 : k = 3
    · subst e3; rfl
    · simp [e3]
  simp [hT, zu_push, e]
theorem hT_w4 {m : aj_M} {o s h x : Int} {NR SR : Nat → Int} : aj_u (hT m o s h NR SR) [10, 0] 4 x = hT m o x h NR SR := by
  have e : st (st (st (st (m [10, 0]) 3 o) 4 s) 5 h) 4 x = st (st (st (m [10, 0]) 3 o) 4 x) 5 h := by
    funext k
    simp only [st]
    by_cases e3 : k = 4
    · subst e3; rfl
    · simp [e3]
  simp [hT, zu_push, e]
theorem hT_w5 {m : aj_M} {o s h x : Int} {NR SR : Nat → Int} : aj_u (hT m o s h NR SR) [10, 0] 5 x = hT m o s x NR SR := by
  have e : st (st (st (st (m [10, 0]) 3 o) 4 s) 5 h) 5 x = st (st (st (m [10, 0]) 3 o) 4 s) 5 x := by
    funext k
    simp only [st]
    by_cases e3 : k = 5
    · subst e3; rfl
    · simp [e3]
  simp [hT, zu_push, e]
theorem hT_s {m : aj_M} {o s h : Int} {NR SR : Nat → Int} : hT m o s h NR SR [10, 0] 0 = m [10, 0] 0 ∧ hT m o s h NR SR [10, 0] 1 = m [10, 0] 1 ∧ hT m o s h NR SR [10, 0] 2 = m [10, 0] 2 ∧ hT m o s h NR SR [10, 0] 3 = o ∧ hT m o s h NR SR [10, 0] 4 = s ∧ hT m o s h NR SR [10, 0] 5 = h := by
  rw [hT_q]
  refine ⟨?_, ?_, ?_, ?_, ?_, ?_⟩ <;> simp [st]
theorem pX2_isUnfilled {f : Nat} {Φ : Int → aj_M → Prop} {m : aj_M} {dg x v : Nat} (h0 : m [10, 0] 0 = dg) (hd : dg ≤ 4) (hv : v < 14) (hx : m [6, 10, 0] v = x) (hx2 : x < 16384) (h1 : zpc x < dg → Φ 1 m) (h2 : ¬ zpc x < dg → Φ 0 m) : wX2_isUnfilled f Φ [10, 0] v m := by
  unfold wX2_isUnfilled
  have hx' : m (6 :: [10, 0]) v = x := hx
  rw [Int.toNat_natCast, hx']
  have := zpc_le (x := x)
  refine ⟨⟨by omega, by omega⟩, pJ6_bitCount hx2 ?_⟩
  rw [h0]
  exact ⟨⟨by omega, by omega⟩, ⟨by omega, by omega⟩, fun c => h2 (by omega), fun c => h1 (by omega)⟩
theorem zi_clr {n i : Nat} (hn : n < 2 ^ 14) (hi : i < 14) : ∃ k : Nat, k ≤ n ∧ aj_and (n : Int) (aj_xor (aj_shl 1 (i : Int)) (-1)) = (k : Int) ∧ ∀ j, k.testBit j = (n.testBit j && decide (j ≠ i)) := by
  have h2 : 2 ^ i < 2 ^ 14 := Nat.pow_lt_pow_right (by decide) hi
  have e0 : (Int32.ofInt (aj_xor (aj_shl 1 (i : Int)) (-1))).toBitVec = ~~~ (BitVec.ofNat 32 (2 ^ i)) := by
    rw [zi_shl (by omega), aj_xor, Int32.ofInt_toInt, zi_of (by omega), Int32.toBitVec_xor, show (Int32.ofInt (-1)).toBitVec = BitVec.allOnes 32 by decide, BitVec.xor_allOnes]
    rfl
  have e : (Int32.ofInt (n : Int) &&& Int32.ofInt (aj_xor (aj_shl 1 (i : Int)) (-1))).toBitVec.toNat ≤ n := by
    rw [Int32.toBitVec_and, BitVec.toNat_and, zi_of (by omega), pk_tn (by omega)]
    exact Nat.and_le_left
  refine ⟨_, e, zi_toInt (by omega), fun j => ?_⟩
  rw [Int32.toBitVec_and, e0, ← BitVec.getLsbD, BitVec.getLsbD_and, BitVec.getLsbD_not, zi_of (by omega)]
  rw [show (nI n).toBitVec.getLsbD j = n.testBit j by rw [BitVec.getLsbD, pk_tn (by omega)]]
  by_cases hj : j < 32
  · rw [BitVec.getLsbD_ofNat, Nat.testBit_two_pow]
    by_cases h : i = j <;> simp [h, hj, Ne.symm]
  · have : n.testBit j = false := Nat.testBit_lt_two_pow (Nat.lt_of_lt_of_le hn (Nat.pow_le_pow_right (by decide) (by omega)))
    simp [this]
theorem pX2_tooNear {f : Nat} {Φ : Int → aj_M → Prop} {m : aj_M} {n g u : Nat} {near : Nat → Nat} (h1 : m [10, 0] 1 = g) (h2 : m [10, 0] 2 = n) (hg : 3 ≤ g ∧ g ≤ 8) (hn : n ≤ 14) (hu : u < n) (h6 : ∀ v, v < n → m [6, 10, 0] v = near v) (hnr : ∀ v, v < n → near v < 2 ^ 14) (hf : 300 ≤ f) (hK : Φ (zball near n (g - 2) (2 ^ u)) m) : wX2_tooNear f Φ [10, 0] u m := by
  have p14 : 2 ^ u < 2 ^ 14 := Nat.pow_lt_pow_right (by decide) (by omega)
  unfold wX2_tooNear
  rw [zi_shl (by omega)]
  have key : ∀ (k i s : Nat), i ≤ g - 2 → g - 2 - i < k → s < 2 ^ 14 → zball near n (g - 2 - i) s = zball near n (g - 2) (2 ^ u) → hX2_tooNear_6 f Φ k [10, 0] s i m := by
    intro k
    induction k with
    | zero => intro i s a1 a2; omega
    | succ k ih =>
      intro i s a1 a2 hs he
      unfold hX2_tooNear_6
      rw [h1]
      refine ⟨⟨by omega, by omega⟩, ⟨by omega, by omega⟩, fun c => ?_, fun c => ?_⟩
      · rw [show g - 2 - i = 0 by omega] at he
        have e1 : s = zball near n (g - 2) (2 ^ u) := he
        rw [e1]; exact hK
      · refine zfor (H := fun kk v (_ : Nat) => ∀ w : Int, w = zexa near s v.toNat → hX2_tooNear_22 f Φ (fun q0 v2 v3 m => hX2_tooNear_6 f Φ k q0 v2 v3 m) kk [10, 0] s i w v m) (N := n) (fun _ _ => True) ?_ f 0 0 (by omega) (by omega) trivial s rfl
        rintro kk v _ hv _ hnx w rfl
        rw [Int.toNat_natCast]
        have hl := zexa_lt (near := near) hs v (fun v' hv' => hnr v' (by omega))
        unfold hX2_tooNear_22
        rw [h2]
        refine ⟨⟨by omega, by omega⟩, ⟨by omega, by omega⟩, fun c2 => ?_, fun c2 => ?_⟩
        · have ev : v = n := by omega
          subst ev
          have e2 : zball near v (g - 2 - (i + 1)) (zexa near s v) = zball near v (g - 2) (2 ^ u) := by
            rw [← he, show g - 2 - i = (g - 2 - (i + 1)) + 1 by omega]
            rfl
          refine ⟨⟨by omega, by omega⟩, ⟨by omega, by omega⟩, fun c3 => ih (i + 1) _ (by omega) (by omega) hl e2, fun c3 => ?_⟩
          have e3 : zexa near s v = s := by omega
          rw [e3, zball_fix e3] at e2
          rw [e2]; exact hK
        · have hnv := hnr v (by omega)
          have et : ((v : Int) + 1).toNat = v + 1 := by omega
          rw [zi_bit (by omega) (by omega), Int.toNat_natCast]
          have h6' : m (6 :: [10, 0]) v = near v := h6 v (by omega)
          rw [h6']
          by_cases hb : s.testBit v = true
          · rw [if_pos hb]
            refine ⟨by decide, fun c => absurd rfl c, fun _ => ⟨⟨by omega, by omega⟩, hnx (by omega) 0 trivial _ ?_⟩⟩
            rw [et, zi_or (by omega) (by omega)]
            show _ = ((if s.testBit v then _ else _ : Nat) : Int)
            rw [if_pos hb]
          · rw [if_neg hb]
            refine ⟨by decide, fun _ => hnx (by omega) 0 trivial _ ?_, fun c => absurd c (by decide)⟩
            rw [et, show (0 : Int) = ((0 : Nat) : Int) from rfl, zi_or (by omega) (by decide)]
            show _ = ((if s.testBit v then _ else _ : Nat) : Int)
            rw [if_neg hb, Nat.or_zero]
  exact key f 0 (2 ^ u) (by omega) (by omega) p14 rfl
theorem zln_succ {near : Nat → Nat} {u v : Nat} (huv : u < v) : zln near u (v + 1) = (zln near u v || decide (near v = 0)) := by
  unfold zln
  show decide (zcnt _ v + (if decide (u < v ∧ near v = 0) = true then 1 else 0) ≠ 0) = _
  by_cases h : near v = 0
  · simp [h, huv]
  · simp [h]
theorem pX2_partnersOf {f : Nat} {Φ : Int → aj_M → Prop} {m : aj_M} {dg n g u sh : Nat} {near : Nat → Nat} (h0 : m [10, 0] 0 = dg) (hd : dg ≤ 4) (h1 : m [10, 0] 1 = g) (h2 : m [10, 0] 2 = n) (hg : 3 ≤ g ∧ g ≤ 8) (hn : n ≤ 14) (hu : u < n) (h6 : ∀ v, v < n → m [6, 10, 0] v = near v) (hnr : ∀ v, v < n → near v < 2 ^ 14) (h7 : m [7, 10, 0] u = sh) (hsh : sh < 2 ^ 14) (hf : 300 ≤ f) (hK : ∀ P : Nat, P < 2 ^ 14 → (∀ v, P.testBit v = (decide (u < v ∧ v < n) && zcd dg g n near sh u v)) → Φ P m) : wX2_partnersOf f Φ [10, 0] u m := by
  unfold wX2_partnersOf
  refine ⟨⟨by omega, by omega⟩, pX2_tooNear h1 h2 hg hn hu h6 hnr hf ?_⟩
  have hbl := zball_lt hnr (g - 2) (2 ^ u) (Nat.pow_lt_pow_right (by decide) (by omega))
  have h7' : m (7 :: [10, 0]) u = sh := h7
  rw [Int.toNat_natCast, h7', zi_or (by omega) (by omega)]
  generalize hBl : zball near n (g - 2) (2 ^ u) = Bl at hbl
  have hbar : sh ||| Bl < 2 ^ 14 := Nat.or_lt_two_pow hsh hbl
  have key : ∀ (k v P : Nat) (lone : Int), u + 1 ≤ v → v ≤ n → n - v < k → P < 2 ^ 14 → (∀ w, P.testBit w = (decide (u < w ∧ w < v) && zcd dg g n near sh u w)) → lone = (if zln near u v then 1 else 0) → hX2_partnersOf_23 f Φ k [10, 0] ((sh ||| Bl : Nat) : Int) P lone v m := by
    intro k
    induction k with
    | zero => intro v P lone a1 a2 a3; omega
    | succ k ih =>
      intro v P lone a1 a2 a3 hP hPv hl
      unfold hX2_partnersOf_23
      rw [h2]
      refine ⟨⟨by omega, by omega⟩, ⟨by omega, by omega⟩, fun c => hK P hP (fun w => by rw [hPv w, show v = n by omega]), fun c => ?_⟩
      have hvn : v < n := by omega
      have hnv := hnr v hvn
      have h6v : m (6 :: [10, 0]) v = near v := h6 v hvn
      have h2v : 2 ^ v < 2 ^ 14 := Nat.pow_lt_pow_right (by decide) (by omega)
      have hlb : lone = 0 ∨ lone = 1 := by rw [hl]; split <;> simp
      -- the rest of one turn
      have turn : ∀ can : Int, (can = 1 ∧ zpc (near v) < dg ∧ Bl.testBit v = false ∧ sh.testBit v = false) ∨ (can = 0 ∧ ¬ (zpc (near v) < dg ∧ Bl.testBit v = false ∧ sh.testBit v = false)) → hX2_partnersOf_55 f Φ (fun q0 v2 v3 v4 v5 m => hX2_partnersOf_23 f Φ k q0 v2 v3 v4 v5 m) [10, 0] ((sh ||| Bl : Nat) : Int) P lone v can m := by
        intro can hcan
        have hcd : zcd dg g n near sh u v = (decide (can = 1) && !(decide (near v = 0) && decide (lone = 1))) := by
          unfold zcd
          rw [hBl]
          have e1 : zln near u v = decide (lone = 1) := by
            rw [hl]
            cases zln near u v <;> rfl
          rw [e1]
          rcases hcan with ⟨rfl, q1, q2, q3⟩ | ⟨rfl, q⟩
          · simp [q1, q2, q3]
          · by_cases q1 : zpc (near v) < dg
            · by_cases q2 : Bl.testBit v = false
              · have q3 : sh.testBit v = true := by
                  by_cases q3 : sh.testBit v = true
                  · exact q3
                  · exact absurd ⟨q1, q2, by simpa using q3⟩ q
                simp [q3]
              · have q2' : Bl.testBit v = true := by simpa using q2
                simp [q2']
            · simp [q1]
        have nxt : ∀ (P' : Nat) (lone' : Int), P' < 2 ^ 14 → (∀ w, P'.testBit w = (P.testBit w || (decide (w = v) && zcd dg g n near sh u v))) → lone' = (if near v = 0 then 1 else lone) → hX2_partnersOf_23 f Φ k [10, 0] ((sh ||| Bl : Nat) : Int) P' lone' ((v : Int) + 1) m := by
          intro P' lone' hP' hP'v hl'
          refine ih (v + 1) P' lone' (by omega) (by omega) (by omega) hP' (fun w => ?_) ?_
          · rw [hP'v w, hPv w]
            by_cases ew : w = v
            · subst ew
              have c1 : ¬ (u < w ∧ w < w) := by omega
              have c2 : u < w ∧ w < w + 1 := by omega
              simp [c1, c2]
            · have c1 : (u < w ∧ w < v) ↔ (u < w ∧ w < v + 1) := by omega
              simp [ew, c1]
          · rw [hl', zln_succ (by omega), hl]
            by_cases hz : near v = 0
            · simp [hz]
            · simp [hz]
        have orz : ∀ a b : Int, (a = 0 ∨ a = 1) → (b = 0 ∨ b = 1) → aj_or a b = if b = 1 then 1 else a := by
          rintro a b (rfl | rfl) (rfl | rfl) <;> decide
        have h96 : ∀ al z : Int, (z = 0 ∧ near v ≠ 0) ∨ (z = 1 ∧ near v = 0) → (al = 1 ∧ near v = 0 ∧ lone = 1) ∨ (al = 0 ∧ ¬ (near v = 0 ∧ lone = 1)) → hX2_partnersOf_96 f Φ (fun q0 v2 v3 v4 v5 m => hX2_partnersOf_23 f Φ k q0 v2 v3 v4 v5 m) [10, 0] ((sh ||| Bl : Nat) : Int) P v can al lone z m := by
          intro al z hz hal
          have hz01 : z = 0 ∨ z = 1 := by omega
          have hln : aj_or lone z = (if near v = 0 then 1 else lone) := by
            rw [orz lone z hlb hz01]
            by_cases e : near v = 0
            · rw [if_pos (by omega), if_pos e]
            · rw [if_neg (by omega), if_neg e]
          have keep : zcd dg g n near sh u v = false → hX2_partnersOf_23 f Φ k [10, 0] ((sh ||| Bl : Nat) : Int) (aj_or (P : Int) 0) (aj_or lone z) ((v : Int) + 1) m := by
            intro hc
            rw [show (0 : Int) = ((0 : Nat) : Int) from rfl, zi_or (by omega) (by decide), Nat.or_zero]
            exact nxt P _ hP (fun w => by rw [hc]; simp) hln
          unfold hX2_partnersOf_96
          refine ⟨⟨by omega, by omega⟩, fun c1 => keep ?_, fun c1 => ⟨⟨by omega, by omega⟩, fun c2 => keep ?_, fun c2 => ?_⟩⟩
          · rw [hcd, decide_eq_false (by omega)]; rfl
          · have : near v = 0 ∧ lone = 1 := by omega
            rw [hcd]; simp [this.1, this.2]
          · have hc : zcd dg g n near sh u v = true := by
              have c3 : can = 1 := by omega
              rw [hcd]
              by_cases e1 : near v = 0
              · have e2 : lone ≠ 1 := by omega
                simp [c3, e1, e2]
              · simp [c3, e1]
            rw [zi_shl (by omega), zi_or (by omega) (by omega)]
            refine nxt (P ||| 2 ^ v) _ (Nat.or_lt_two_pow hP h2v) (fun w => ?_) hln
            rw [zt_or, hc, Bool.and_true]
            by_cases ew : w = v
            · simp [ew]
            · simp [ew, Ne.symm ew]
        unfold hX2_partnersOf_55
        rw [Int.toNat_natCast, h6v]
        refine ⟨⟨by omega, by omega⟩, ⟨by omega, by omega⟩, fun c1 => ⟨⟨by omega, by omega⟩, ⟨by omega, by omega⟩, fun _ => h96 0 0 (Or.inl ⟨rfl, by omega⟩) (Or.inr ⟨rfl, fun h => by omega⟩), fun c2 => absurd c2 c1⟩, fun c1 => ⟨⟨by omega, by omega⟩, fun c2 => ⟨⟨by omega, by omega⟩, ⟨by omega, by omega⟩, fun c3 => absurd c1 c3, fun _ => h96 0 1 (Or.inr ⟨rfl, by omega⟩) (Or.inr ⟨rfl, fun h => by omega⟩)⟩, fun c2 => ⟨⟨by omega, by omega⟩, ⟨by omega, by omega⟩, fun c3 => absurd c1 c3, fun _ => h96 1 1 (Or.inr ⟨rfl, by omega⟩) (Or.inl ⟨rfl, by omega, by omega⟩)⟩⟩⟩
      refine pX2_isUnfilled h0 hd (by omega) (h6 v hvn) (by omega) (fun hp => zc1' ?_) (fun hp => zb0' (turn 0 (Or.inr ⟨rfl, fun h => hp h.1⟩)))
      rw [zi_bit (by omega) (by omega)]
      have hor : (sh ||| Bl).testBit v = (sh.testBit v || Bl.testBit v) := Nat.testBit_or _ _ _
      by_cases hb : (sh ||| Bl).testBit v = true
      · rw [if_pos hb]
        refine ⟨by decide, fun _ => turn 0 (Or.inr ⟨rfl, fun h => ?_⟩), fun c => absurd c (by decide)⟩
        rw [hor, h.2.1, h.2.2] at hb; cases hb
      · rw [if_neg hb]
        rw [hor] at hb
        simp only [Bool.or_eq_true, not_or, Bool.not_eq_true] at hb
        exact ⟨by decide, fun c => absurd rfl c, fun _ => turn 1 (Or.inl ⟨rfl, hp, hb.2, hb.1⟩)⟩
  exact key f (u + 1) 0 0 (Nat.le_refl _) (by omega) (by omega) (by decide) (fun w => by
    have : ¬ (u < w ∧ w < u + 1) := by omega
    simp [this]) (by
    have : zln near u (u + 1) = false := by
      unfold zln
      rw [zcnt_ext (Q := fun _ => false) (u + 1) (fun i hi => by
        have : ¬ (u < i) := by omega
        simp [this])]
      have : ∀ n, zcnt (fun _ => false) n = 0 := by
        intro n
        induction n with
        | zero => rfl
        | succ n ih => unfold zcnt; rw [ih]; rfl
      rw [this]; rfl
    rw [this]; rfl)
