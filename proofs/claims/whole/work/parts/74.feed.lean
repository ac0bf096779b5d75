/-! FEED: bytes -/
def zB8 (v : Int) (s : Nat) : BitVec 8 := ((Int32.ofInt v).toBitVec >>> s).setWidth 8
def zBy (v : Int) (s : Nat) : Int := (zB8 v s).toNat
def zSb (b : Int) : Int := if b < 128 then b else b - 256
theorem zBy_b {v : Int} {s : Nat} : 0 ≤ zBy v s ∧ zBy v s < 256 := by
  unfold zBy
  have := (zB8 v s).isLt
  omega
theorem zSb_i {v : Int} {s : Nat} : zSb (zBy v s) = (zB8 v s).toInt := by
  unfold zSb zBy
  rw [BitVec.toInt_eq_toNat_cond]
  have := (zB8 v s).isLt
  split <;> split <;> omega
theorem zB8_ushr {v : Int} {s : Nat} (hs : s < 32) : aj_b (aj_ushr v s) = (zB8 v s).toInt := by
  unfold aj_b aj_ushr
  have h0 : ((Int32.ofInt (s : Int)).toUInt32 &&& Int32.toUInt32 31).toNat % 32 = s := by
    rw [zi_of (show s < 2 ^ 31 by omega)]
    exact co_dec (N := 32) (P := fun i => ((nI i).toUInt32 &&& Int32.toUInt32 31).toNat % 32 = i) (by decide +kernel) hs
  have h1 : ((Int32.ofInt v).toUInt32 >>> ((Int32.ofInt (s : Int)).toUInt32 &&& Int32.toUInt32 31)).toInt32.toBitVec = (Int32.ofInt v).toBitVec >>> s := by
    apply BitVec.eq_of_toNat_eq
    have := UInt32.toNat_shiftRight (Int32.ofInt v).toUInt32 ((Int32.ofInt (s : Int)).toUInt32 &&& Int32.toUInt32 31)
    rw [h0] at this
    rw [BitVec.toNat_ushiftRight]
    exact this
  rw [Int32.ofInt_toInt]
  show ((((Int32.ofInt v).toUInt32 >>> ((Int32.ofInt (s : Int)).toUInt32 &&& Int32.toUInt32 31)).toInt32.toBitVec).signExtend 8).toInt = _
  rw [h1]
  rw [BitVec.signExtend_eq_setWidth_of_le _ (by decide)]
  rfl
theorem zB8_bb {v : Int} {s : Nat} (hs : s < 32) : aj_b (aj_b (aj_ushr v s)) = zSb (zBy v s) := by
  rw [zB8_ushr hs, zSb_i]
  have h : ∀ b : BitVec 8, aj_b b.toInt = b.toInt := by decide +kernel
  exact h _
theorem zB8_shr {v : Int} {s : Nat} (hs : s ≤ 24) : aj_and (aj_shr v s) 255 = zBy v s := by
  unfold aj_and aj_shr
  have h0 := zi_sh31 (i := s) (by omega)
  rw [Int32.ofInt_toInt]
  have h1 : (Int32.ofInt v >>> (Int32.ofInt (s : Int) &&& 31)).toBitVec = (Int32.ofInt v).toBitVec.sshiftRight s := by
    show (Int32.ofInt v).toBitVec.sshiftRight ((Int32.ofInt (s : Int) &&& 31).toBitVec.smod 32).toNat = _
    rw [h0]
  have h2 : ((Int32.ofInt v >>> (Int32.ofInt (s : Int) &&& 31)) &&& Int32.ofInt 255).toBitVec = (zB8 v s).setWidth 32 := by
    rw [Int32.toBitVec_and, h1]
    apply BitVec.eq_of_getLsbD_eq
    intro i hi
    have e255 : (Int32.ofInt 255).toBitVec.getLsbD i = decide (i < 8) := co_dec (N := 32) (P := fun i => (Int32.ofInt 255).toBitVec.getLsbD i = decide (i < 8)) (by decide +kernel) hi
    rw [BitVec.getLsbD_and, e255, BitVec.getLsbD_sshiftRight, BitVec.getLsbD_setWidth, zB8, BitVec.getLsbD_setWidth, BitVec.getLsbD_ushiftRight]
    by_cases c : i < 8
    · have : s + i < 32 := by omega
      have hi2 : ¬ 32 ≤ i := by omega
      simp [c, this, hi, hi2]
    · simp [c]
  have h3 : ((zB8 v s).setWidth 32).toNat = (zB8 v s).toNat := by
    rw [BitVec.toNat_setWidth]
    have := (zB8 v s).isLt
    omega
  rw [zi_toInt (by rw [h2, h3]; have := (zB8 v s).isLt; omega), h2, h3]
  rfl
/-- the tape: n bytes T -/
def zTpC (m : aj_M) (T : Nat → Int) (n : Nat) : Prop := m [0, 0] 1 = n ∧ ∀ j, j < n → m [0, 0, 0] j = zSb (T j)
def zTpR (m : aj_M) (T : Nat → Int) (n : Nat) : Prop := m [1] 5 = n ∧ ∀ j, j < n → m [3, 1] j = T j
def zTp4 (T : Nat → Int) (n : Nat) (v : Int) : Nat → Int := fun j => if n ≤ j ∧ j < n + 4 then zBy v (24 - 8 * (j - n)) else T j
theorem hX7_lay {f : Nat} {Φ : aj_M → Prop} {m0 : aj_M} {T : Nat → Int} {n : Nat} {v : Int} (hn : n + 4 ≤ 900) (h : ∀ m', zo [[0, 0], [0, 0, 0]] m0 m' → (∀ k, k ≠ 1 → m' [0, 0] k = m0 [0, 0] k) → zTpC m' (zTp4 T n v) (n + 4) → Φ m') : ∀ (k i : Nat) (m : aj_M), i ≤ 4 → 4 - i < k → zo [[0, 0], [0, 0, 0]] m0 m → (∀ k, k ≠ 1 → m [0, 0] k = m0 [0, 0] k) → zTpC m (zTp4 T n v) (n + i) → hX7_layFour_3 f Φ k [0, 0] v (24 - 8 * (i : Int)) m := by
  intro k
  induction k with
  | zero => intro i m h1 h2; omega
  | succ k ih =>
    intro i m h1 h2 z q t
    unfold hX7_layFour_3
    rw [t.1]
    refine ⟨⟨by omega, by omega⟩, fun c => ?_, fun c => ⟨⟨by omega, by omega⟩, fun d => by omega, fun d => ⟨⟨by omega, by omega⟩, ?_⟩⟩⟩
    · have ei : i = 4 := by omega
      subst ei
      exact h m z q t
    · rintro m1 rfl m2 rfl
      have e : (24 - 8 * (i : Int)) = ((24 - 8 * i : Nat) : Int) := by omega
      rw [zu_off (q := [0, 0]) (by decide), t.1, e, zB8_bb (by omega), Int.toNat_natCast, show ((24 - 8 * i : Nat) : Int) + -8 = 24 - 8 * ((i + 1 : Nat) : Int) by omega]
      refine ih (i + 1) _ (by omega) (by omega) (fun p hp => ?_) (fun k hk => ?_) ⟨?_, fun j hj => ?_⟩
      · rw [← z p hp]
        simp only [List.mem_cons, List.not_mem_nil, or_false, not_or] at hp
        rw [zu_off hp.1, zu_off hp.2]
      · rw [zu_tup, tup_o hk, zu_off (by decide)]
        exact q k hk
      · rw [zu_tup, tup_s]
        omega
      · rw [zu_off (by decide), zu_tup]
        by_cases c : j = n + i
        · subst c
          rw [tup_s]
          unfold zTp4
          rw [if_pos (by omega), show n + i - n = i by omega]
        · rw [tup_o c]
          exact t.2 j (by omega)
theorem pX7_layFour {f : Nat} {Φ : aj_M → Prop} {m : aj_M} {T : Nat → Int} {n : Nat} {v : Int} (hf : 10 ≤ f) (hn : n + 4 ≤ 900) (t : zTpC m T n) (h : ∀ m', zo [[0, 0], [0, 0, 0]] m m' → (∀ k, k ≠ 1 → m' [0, 0] k = m [0, 0] k) → zTpC m' (zTp4 T n v) (n + 4) → Φ m') : wX7_layFour f Φ [0, 0] v m := by
  refine hX7_lay hn h f 0 m (by omega) (by omega) (fun p _ => rfl) (fun _ _ => rfl) ⟨t.1, fun j hj => ?_⟩
  rw [t.2 j (by omega), zTp4, if_neg (by omega)]
def zFd (T : Nat → Int) (n : Nat) (a b c d e : Int) : Nat → Int := zTp4 (zTp4 (zTp4 (zTp4 (zTp4 T n a) (n + 4) b) (n + 8) c) (n + 12) d) (n + 16) e
theorem pX11_feed {f : Nat} {Φ : Int → aj_M → Prop} {m : aj_M} {T : Nat → Int} {n : Nat} {a b c d e : Int} (hf : 10 ≤ f) (hn : n ≤ 900) (t : zTpC m T n) (hno : 880 < n → Φ (-5) m) (h : n ≤ 880 → ∀ m', zo [[0, 0], [0, 0, 0]] m m' → (∀ k, k ≠ 1 → m' [0, 0] k = m [0, 0] k) → zTpC m' (zFd T n a b c d e) (n + 20) → Φ ((n + 20 : Nat) : Int) m') : wX11_feed f Φ [0] a b c d e m := by
  unfold wX11_feed
  rw [t.1]
  refine ⟨⟨by omega, by omega⟩, fun g => ?_, fun g => hno (by omega)⟩
  have hn2 : n ≤ 880 := by omega
  refine pX7_layFour hf (by omega) t (fun m1 z1 q1 t1 => ?_)
  refine pX7_layFour hf (by omega) t1 (fun m2 z2 q2 t2 => ?_)
  refine pX7_layFour hf (by omega) t2 (fun m3 z3 q3 t3 => ?_)
  refine pX7_layFour hf (by omega) t3 (fun m4 z4 q4 t4 => ?_)
  refine pX7_layFour hf (by omega) t4 (fun m5 z5 q5 t5 => ?_)
  have e5 : m5 [0, 0] 1 = ((n + 20 : Nat) : Int) := t5.1
  rw [e5]
  exact h hn2 m5 (zo_t z1 (zo_t z2 (zo_t z3 (zo_t z4 z5)))) (fun k hk => by rw [q5 k hk, q4 k hk, q3 k hk, q2 k hk, q1 k hk]) t5
