/-! QUERIES ON THE NETWORK: the network that is current, on both sides -/
def nSl : List (List Nat) := [[8, 0], [2, 8, 0], [4, 8, 0], [5, 8, 0], [6, 8, 0], [7, 8, 0], [8, 8, 0], [3, 8, 0], [6, 3, 8, 0], [10, 3, 8, 0], [11, 3, 8, 0], [12, 3, 8, 0], [13, 3, 8, 0], [14, 3, 8, 0], [6, 1, 1, 0]]
section NTS
variable {f : Nat} {m : aj_M} {X : aj_M → Prop} {A S N : Nat → Int} {V : Nat → Nat → Int} {I : Nat → Bool} {T : Nat → Int} {n : Nat} {fk fa : Int}
theorem CI_net {m1 : aj_M} (C : CI m A S N V I T n fk fa) (z : zo nSl m m1) (h : cNet m1 A) : CI m1 A S N V I T n fk fa := by
  obtain ⟨c1, c2, c3, c4, c5, c6⟩ := C
  exact ⟨cRest_off c1 (fun p hp => z p (by
    have q : ∀ p ∈ cRl, p ∉ nSl := by decide
    exact q p hp)), ⟨wP_zo c2.1 (fun r hr => z r (by
    have q : ∀ p ∈ zcpl [1, 0], p ∉ nSl := by decide
    exact q r hr)), wK_off c2.2 (z _ (by decide)) (z _ (by decide))⟩, wS_off c3 (z _ (by decide)) (z _ (by decide)), cHu_off c4 (z _ (by decide)) (z _ (by decide)), h, by rw [z [12, 9, 0] (by decide)]; exact c6⟩
theorem kR_n {m1 : aj_M} (z : zo nSl m m1) : kR m m1 := kR_zo z (by decide)
/-- the network that is lifted now -/
def cCur (m : aj_M) (A : Nat → Int) : Prop := m [0] 12 = 0 ∧ m [3, 8, 0] 16 = 0 ∧ (∀ k, rI (m [12, 3, 8, 0] k)) ∧ zNtC m A
theorem cCur_n {m : aj_M} (h : cCur m A) : cNet m A := ⟨h.2.1, h.2.2.1, Or.inr ⟨h.1, h.2.2.2⟩⟩
theorem pCur {Φ : List Nat → aj_M → Prop} (hf : 10000 ≤ f) (P : PI A S N V I T n fk fa) (C : CI m A S N V I T n fk fa) (hK : ∀ m1, CI m1 A S N V I T n fk fa → kR m m1 → cCur m1 A → Φ [3, 8, 0] m1) : wX11_current f Φ [0] m := by
  obtain ⟨d1, d2, d3⟩ := C.2.2.2.2.1
  rcases d3 with d3 | ⟨d3, d4⟩
  · refine ⟨by rw [d3]; decide, fun x => absurd (d3.symm.trans x) (by decide), fun _ => ?_⟩
    refine pX5_build (q := [3, 8, 0]) (s := [2, 0]) (Or.inl rfl) (Or.inl rfl) P.1 C.2.1.1 C.2.1.2 C.2.2.1 (by omega) (fun m1 s e n1 n2 n3 n4 n5 n6 n7 n8 => ?_)
    rintro _ rfl
    rintro _ rfl
    generalize hM : aj_u (aj_u m1 [8, 0] 0 0) [0] 12 0 = M
    have o : ∀ p, p ≠ [0] → p ≠ [8, 0] → M p = m1 p := fun p a b => by rw [← hM, zu_off a, zu_off b]
    have e0 : ∀ j, j ≠ 12 → M [0] j = m1 [0] j := fun j hj => by rw [← hM, zu_tup, tup_o hj, zu_off (by decide)]
    have e12 : M [0] 12 = 0 := by rw [← hM, zu_tup, tup_s]
    have e8 : M [8, 0] 0 = 0 := by rw [← hM, zu_off (by decide), zu_tup, tup_s]
    have om : ∀ p, p ∉ ([[1, 0], [11, 1, 0], [6, 1, 1, 0], [3, 8, 0], [2, 3, 8, 0], [3, 3, 8, 0], [4, 3, 8, 0], [5, 3, 8, 0], [8, 3, 8, 0], [9, 3, 8, 0], [0], [8, 0]] : List (List Nat)) → M p = m p := fun p hp => by
      simp only [List.mem_cons, List.not_mem_nil, or_false, not_or] at hp
      obtain ⟨a1, a2, a3, a4, a5, a6, a7, a8, a9, a10, a11, a12⟩ := hp
      rw [o p a11 a12, n3 p (by simp [a1, a2, a3, a4, a5, a6, a7, a8, a9, a10])]
    have cur : cCur M A := by
      refine ⟨e12, by rw [o _ (by decide) (by decide), n5 16 (by decide) (by decide) (by decide)]; exact d1, by rw [om [12, 3, 8, 0] (by decide)]; exact d2, ⟨s, e, nC_of n1 (by rw [o _ (by decide) (by decide)]) (by rw [o _ (by decide) (by decide)]) (o _ (by decide) (by decide)) (o _ (by decide) (by decide)) (o _ (by decide) (by decide)) (o _ (by decide) (by decide))⟩, ?_, Or.inl (by rw [o _ (by decide) (by decide)]; exact n6), Or.inl e8⟩
      rw [o [4, 3, 8, 0] (by decide) (by decide), o [5, 3, 8, 0] (by decide) (by decide)]
      exact n2
    have C1 : CI M A S N V I T n fk fa := by
      obtain ⟨c1, c2, c3, c4, c5, c6⟩ := C
      refine ⟨cRest_off c1 (fun p hp => om p ?_), ⟨wP_zo n7 (fun r hr => o r ?_ ?_), wK_off n8 (o _ (by decide) (by decide)) (o _ (by decide) (by decide))⟩, wS_off c3 (om _ (by decide)) (om _ (by decide)), cHu_off c4 (om _ (by decide)) (om _ (by decide)), cCur_n cur, by rw [om [12, 9, 0] (by decide)]; exact c6⟩
      · have q : ∀ p ∈ cRl, p ∉ ([[1, 0], [11, 1, 0], [6, 1, 1, 0], [3, 8, 0], [2, 3, 8, 0], [3, 3, 8, 0], [4, 3, 8, 0], [5, 3, 8, 0], [8, 3, 8, 0], [9, 3, 8, 0], [0], [8, 0]] : List (List Nat)) := by decide
        exact q p hp
      · have q : ∀ p ∈ zcpl [1, 0], p ≠ [0] := by decide
        exact q r hr
      · have q : ∀ p ∈ zcpl [1, 0], p ≠ [8, 0] := by decide
        exact q r hr
    exact hK M C1 (kR_zo (l := [[1, 0], [11, 1, 0], [6, 1, 1, 0], [3, 8, 0], [2, 3, 8, 0], [3, 3, 8, 0], [4, 3, 8, 0], [5, 3, 8, 0], [8, 3, 8, 0], [9, 3, 8, 0], [0], [8, 0]]) om (by decide)) cur
  · exact ⟨by rw [d3]; decide, fun _ => hK m C kR_r ⟨d3, d1, d2, d4⟩, fun x => absurd d3 x⟩
/-- spreading leaves the network -/
theorem cur_zN {m1 : aj_M} (h : cCur m A) (z : zN [3, 8, 0] m m1) : cCur m1 A ∧ zo nSl m m1 := by
  obtain ⟨z1, z2, z3⟩ := z
  obtain ⟨h1, h2, h3, ⟨s, e, hc⟩, h5, h6, h7⟩ := h
  refine ⟨⟨by rw [z1 _ (by decide)]; exact h1, by rw [z2 16 (by decide)]; exact h2, z3 h3, ⟨s, e, nC_of hc (z2 0 (by decide)) (z2 1 (by decide)) (z1 _ (by decide)) (z1 _ (by decide)) (z1 _ (by decide)) (z1 _ (by decide))⟩, ?_, ?_, ?_⟩, zo_m z1 (by decide)⟩
  · rw [z1 [4, 3, 8, 0] (by decide), z1 [5, 3, 8, 0] (by decide)]; exact h5
  · rw [z2 7 (by decide), z1 [6, 3, 8, 0] (by decide)]; exact h6
  · rw [z1 [8, 0] (by decide), z1 [2, 8, 0] (by decide)]; exact h7
/-- the class's state behind a query, and what the reference sees -/
theorem cq {m1 : aj_M} (C : CI m A S N V I T n fk fa) (h : cCur m A) (z : zN [3, 8, 0] m m1) : CI m1 A S N V I T n fk fa ∧ kR m m1 := ⟨CI_net C (cur_zN h z).2 (cCur_n (cur_zN h z).1), kR_n (cur_zN h z).2⟩
/-! the reference -/
def rNl : List (List Nat) := [[1], [16, 1], [17, 1], [18, 1], [19, 1], [20, 1], [21, 1], [24, 1], [25, 1], [26, 1], [30, 1], [31, 1], [32, 1]]
def rNk (m m' : aj_M) : Prop := zo rNl m m' ∧ ∀ j, j ≠ 0 → j ≠ 22 → j ≠ 23 → m' [1] j = m [1] j
theorem rNk_0 : rNk m (aj_u m [1] 0 0) := ⟨fun p hp => zu_off (fun e => hp (by rw [e]; decide)), fun j a _ _ => by rw [zu_tup, tup_o a]⟩
theorem rNk_t {m1 m2 : aj_M} (h : rNk m m1) {l : List (List Nat)} (z : zo l m1 m2) (hl : ∀ p, p ∈ l → p ∈ rNl) (h1 : [1] ∉ l) : rNk m m2 := ⟨zo_t h.1 (zo_m z hl), fun j a b c => by rw [z _ h1]; exact h.2 j a b c⟩
theorem rn_inv {m1 m2 : aj_M} (P : PI A S N V I T n fk fa) (C : CI m1 A S N V I T n fk fa) (R : RI m1 A S N V I T n fk fa) (k : rNk m1 m2) : gInv m2 := inv_q P C (kC_zo k.1 (by decide)) (RI_off R (fun p hp => k.1 p (by
  have q : ∀ p ∈ rAl, p ∉ rNl := by decide
  exact q p hp)) (k.2 5 (by decide) (by decide) (by decide)) (k.2 13 (by decide) (by decide) (by decide)) (k.2 14 (by decide) (by decide) (by decide)))
theorem pNetR {Φ : aj_M → Prop} {m1 : aj_M} (hf : 10000 ≤ f) (P : PI A S N V I T n fk fa) (R : RI m A S N V I T n fk fa) (k : rNk m m1) (hK : ∀ m', rNk m m' → nR m' [1] (zNn A) (zLk A).length (zFa A) (zFb A) → zRw3 A (zLk A) (m' [20, 1]) → (∀ u v, u < 60 → v < 60 → m' [21, 1] (60 * u + v) = zjn (zLk A).length (zFa A) (zFb A) u v) → Φ m') : wX12_laysNet f Φ [1] m1 := by
  have row : m1 [1, 1] = A := by rw [k.1 _ (by decide)]; exact R.1
  refine pX12_laysNet P.1 (fun j _ => congrFun row j) (by omega) (fun m' n1 n2 n3 n4 n5 => hK m' ⟨zo_t k.1 (zo_m (l := [[1], [16, 1], [17, 1], [18, 1], [19, 1], [20, 1], [21, 1]]) n4 (by decide)), fun j a b c => by rw [n5 j b c]; exact k.2 j a b c⟩ n1 n2 n3)
theorem pIsNode {Φ : Int → aj_M → Prop} {m1 : aj_M} {v : Int} (P : PI A S N V I T n fk fa) (row : m1 [1, 1] = A) (hv : rI v) (h1 : 0 ≤ v → v < zNn A → Φ 1 m1) (h0 : ¬ (0 ≤ v ∧ v < zNn A) → Φ 0 m1) : wX12_isNode f Φ [1] v m1 := by
  have hb := zNn_b P.1
  have e : ((zNn A : Nat) : Int) = A 5 * A 4 := by
    unfold zNn
    have h4 := gOK_n P.1.1
    have h5 := P.1.2.1
    have : 0 ≤ A 5 * A 4 := Int.mul_nonneg (by omega) (by omega)
    omega
  unfold wX12_isNode
  rw [row, show (5 : Int).toNat = 5 from rfl, show (4 : Int).toNat = 4 from rfl, ← e]
  refine ⟨⟨by omega, by omega⟩, pX12_within ⟨by omega, by omega⟩ (by decide) ⟨by omega, by omega⟩ ?_⟩
  by_cases c : 0 ≤ v ∧ v < zNn A
  · rw [if_pos (by omega)]
    exact ⟨Or.inr rfl, h1 c.1 c.2⟩
  · rw [if_neg (by omega)]
    exact ⟨Or.inl rfl, h0 c⟩
theorem row_0 (R : RI m A S N V I T n fk fa) : aj_u m [1] 0 0 [1, 1] = A := by rw [zu_off (by decide)]; exact R.1
end NTS
