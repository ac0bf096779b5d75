/-! LOTS, the reference -/
noncomputable def zWl (F : Nat → Int) (B : Nat → Int) (u : Nat) : Int := @ite _ (zVa B u) (Classical.propDecidable _) (F u) 0
noncomputable def zJl (B : Nat → Int) (u : Nat) : Int := @ite _ (zVa B u) (Classical.propDecidable _) 0 1
theorem zWl_y {F B : Nat → Int} {u : Nat} (h : zVa B u) : zWl F B u = F u ∧ zJl B u = 0 := ⟨if_pos h, if_pos h⟩
theorem zWl_n {F B : Nat → Int} {u : Nat} (h : ¬ zVa B u) : zWl F B u = 0 ∧ zJl B u = 1 := ⟨if_neg h, if_neg h⟩
theorem zJl_b {B : Nat → Int} : ∀ j, 0 ≤ sumU (zJl B) j ∧ sumU (zJl B) j ≤ j
  | 0 => ⟨Int.le_refl 0, Int.le_refl 0⟩
  | j + 1 => by
    have h := zJl_b (B := B) j
    show 0 ≤ sumU (zJl B) j + zJl B j ∧ sumU (zJl B) j + zJl B j ≤ ((j + 1 : Nat) : Int)
    rcases zVa_d B j with c | c
    · rw [(zWl_y (F := fun _ => 0) c).2]; omega
    · rw [(zWl_n (F := fun _ => 0) c).2]; omega
theorem zWl_s {F B : Nat → Int} {S : Int} (h : ∀ u, ¬ zVa B u → F u = S) : ∀ j, sumU F j = sumU (zWl F B) j + sumU (zJl B) j * S
  | 0 => by show (0 : Int) = 0 + 0 * S; omega
  | j + 1 => by
    show sumU F j + F j = (sumU (zWl F B) j + zWl F B j) + (sumU (zJl B) j + zJl B j) * S
    rw [zWl_s h j]
    rcases zVa_d B j with c | c
    · rw [(zWl_y (F := F) c).1, (zWl_y (F := F) c).2, Int.add_zero]
      omega
    · rw [(zWl_n (F := F) c).1, (zWl_n (F := F) c).2, h j c, Int.add_mul, Int.one_mul]
      omega
def rLt (m m1 : aj_M) (B : Nat → Int) (s l : Int) : Prop := rSt m m1 B ∧ m1 [1] 42 = s ∧ m1 [1] 43 = l
theorem gl_0 {f d : Nat} {Ψ : aj_M → Prop} {m m1 : aj_M} {B : Nat → Int} {s l k w : Int} (hf : 4000 ≤ f) (hB : wA B) (hk : 1 ≤ k ∧ k ≤ 60) (h : rLt m m1 B s l) (hK : ∀ m', rLt m m' B (s + w * zSu k 0 B) (l + w * zSu 0 0 B) → Ψ m') : rG5 f (d + 1) 0 Ψ [1] k ((0 : Nat) : Int) w m1 := by
  have hN := (zNn_b hB).2.2
  show wbX12_goesLots f Ψ (rG5 f d) [1] k 0 w m1
  refine ⟨by decide, fun x => absurd rfl x, fun _ => ?_⟩
  refine pNetGirth hf hB h.1 (fun m' z st e gi => ?_)
  obtain ⟨g, w1, w2⟩ := zGir_v gi hN (by decide)
  have eg := zGv_u w1
  subst eg
  have e42 : m' [1] 42 = s := (e 42 (by decide) (by decide)).trans h.2.1
  have e43 : m' [1] 43 = l := (e 43 (by decide) (by decide)).trans h.2.2
  have go : ∀ x : Int, x = w * zSu k 0 B → hX12_goesLots_30 f Ψ (rG5 f d) [1] w z [1] (m' [1] 42) x m' := by
    intro x hx
    unfold hX12_goesLots_30
    rintro _ rfl
    rw [e42]
    have st1 := rSt_fld (k := 42) (v := s + x) st (by decide) (by decide) (by decide)
    have f43 : aj_u m' [1] 42 (s + x) [1] 43 = l := by rw [zu_tup, tup_o (by decide)]; exact e43
    rw [f43]
    refine ⟨⟨by omega, by omega⟩, fun c => ⟨⟨by omega, by omega⟩, ?_⟩, fun c => ?_⟩
    · rintro _ rfl
      refine hK _ ⟨rSt_fld st1 (by decide) (by decide) (by decide), ?_, ?_⟩
      · rw [zu_tup, tup_o (by decide), zu_tup, tup_s, hx]
      · rw [zu_tup, tup_s]
        have : zSu 0 0 B = z := by
          show zV 0 (zGv B) = z
          rw [zV, if_pos rfl, if_neg (by omega)]
          omega
        rw [this]
    · rintro _ rfl
      refine hK _ ⟨rSt_fld st1 (by decide) (by decide) (by decide), ?_, ?_⟩
      · rw [zu_tup, tup_o (by decide), zu_tup, tup_s, hx]
      · rw [zu_tup, tup_s]
        have : zSu 0 0 B = 0 := by
          show zV 0 (zGv B) = 0
          rw [zV, if_pos rfl, if_pos (by omega)]
        rw [this, Int.mul_zero]
  refine ⟨⟨by omega, by omega⟩, ⟨by omega, by omega⟩, fun c => go 0 ?_, fun c => go w ?_⟩
  · have : zSu k 0 B = 0 := by
      show zV k (zGv B) = 0
      rw [zV, if_neg (by omega), if_neg (by omega)]
    rw [this, Int.mul_zero]
  · have : zSu k 0 B = 1 := by
      show zV k (zGv B) = 1
      rw [zV, if_neg (by omega), if_pos (by omega)]
    rw [this, Int.mul_one]
theorem gl_s {f d n : Nat} {k : Int} {m : aj_M} (hf : 4000 ≤ f) (ih : ∀ (Ψ : aj_M → Prop) (m1 : aj_M) (B : Nat → Int) (s l w : Int), wA B → rLt m m1 B s l → (∀ m', rLt m m' B (s + w * zSu k n B) (l + w * zSu 0 n B) → Ψ m') → rG5 f d 0 Ψ [1] k (n : Int) w m1) {Ψ : aj_M → Prop} {m1 : aj_M} {B : Nat → Int} {s l w : Int} (hB : wA B) (h : rLt m m1 B s l) (hK : ∀ m', rLt m m' B (s + w * zSu k (n + 1) B) (l + w * zSu 0 (n + 1) B) → Ψ m') (hn : n ≤ 1) : rG5 f (d + 1) 0 Ψ [1] k ((n + 1 : Nat) : Int) w m1 := by
  have h6 := hB.2.2.1
  have h4 := gOK_n hB.1
  have hv : ((n + 1 : Nat) : Int) - 1 = (n : Int) := by omega
  have loop : ∀ (kf i : Nat) (mm : aj_M), i ≤ 10 → 10 - i < kf → rLt m mm B (s + w * sumU (zWl (fun u => zSu k n (zLo B u)) B) i) (l + w * sumU (zWl (fun u => zSu 0 n (zLo B u)) B) i) → hX12_goesLots_68 f Ψ (rG5 f d) kf [1] k ((n + 1 : Nat) : Int) w (10 - (i : Int) + sumU (zJl B) i) (i : Int) mm := by
    intro kf
    induction kf with
    | zero => intro i mm h1 h2; omega
    | succ kf ihk =>
      intro i mm h1 h2 st
      have hJ := zJl_b (B := B) i
      have n37 : (37 + (i : Int)).toNat = 37 + i := by omega
      have n49 : (49 + (i : Int)).toNat = 49 + i := by omega
      have row : mm [1, 1] = B := st.1.2.2
      unfold hX12_goesLots_68
      rw [hv]
      refine ⟨⟨by omega, by omega⟩, fun c => ⟨⟨by omega, by omega⟩, fun d => ?_, fun d => ⟨⟨by omega, by omega⟩, ?_⟩⟩, fun c => ⟨⟨by omega, by omega⟩, ?_⟩⟩
      · have ei : i = 10 := by omega
        subst ei
        have e0 : sumU (zJl B) 10 = 0 := by omega
        have sk : ∀ k', zSu k' (n + 1) B = sumU (zWl (fun u => zSu k' n (zLo B u)) B) 10 := fun k' => by
          have := zWl_s (F := fun u => zSu k' n (zLo B u)) (B := B) (S := zSu k' n B) (fun u hu => by show zSu k' n (zLo B u) = _; rw [zLo_n hu]) 10
          rw [e0, Int.zero_mul, Int.add_zero] at this
          exact this
        refine hK mm ?_
        rw [sk k, sk 0]
        exact st
      · have ei : i = 10 := by omega
        subst ei
        have sk : ∀ k', zSu k' (n + 1) B = sumU (zWl (fun u => zSu k' n (zLo B u)) B) 10 + sumU (zJl B) 10 * zSu k' n B := fun k' => zWl_s (F := fun u => zSu k' n (zLo B u)) (B := B) (S := zSu k' n B) (fun u hu => by show zSu k' n (zLo B u) = _; rw [zLo_n hu]) 10
        rw [show (10 : Int) - ((10 : Nat) : Int) + sumU (zJl B) 10 = sumU (zJl B) 10 by omega]
        refine ih _ mm B _ _ _ hB st (fun m' st' => hK m' ?_)
        rw [sk k, sk 0, Int.mul_add, Int.mul_add, ← Int.mul_assoc, ← Int.mul_assoc, ← Int.add_assoc, ← Int.add_assoc]
        exact st'
      · have skip : ¬ zVa B i → hX12_goesLots_68 f Ψ (rG5 f d) kf [1] k ((n + 1 : Nat) : Int) w (10 - (i : Int) + sumU (zJl B) i) ((i : Int) + 1) mm := by
          intro nv
          have e1 : sumU (zJl B) (i + 1) = sumU (zJl B) i + 1 := by
            show sumU (zJl B) i + zJl B i = _
            rw [(zWl_n (F := fun _ => 0) nv).2]
          have e2 : ∀ k', sumU (zWl (fun u => zSu k' n (zLo B u)) B) (i + 1) = sumU (zWl (fun u => zSu k' n (zLo B u)) B) i := fun k' => by
            show sumU _ i + zWl _ B i = _
            rw [(zWl_n (F := fun u => zSu k' n (zLo B u)) nv).1, Int.add_zero]
          have := ihk (i + 1) mm (by omega) (by omega) (by rw [e2, e2]; exact st)
          rw [e1, show (10 : Int) - ((i + 1 : Nat) : Int) + (sumU (zJl B) i + 1) = 10 - (i : Int) + sumU (zJl B) i by omega] at this
          exact this
        refine pX12_isArc ⟨by omega, by omega⟩ (congrFun row 6) h6 (fun a1 a2 => zb1 ⟨⟨by omega, by omega⟩, ?_⟩) (fun x => zb0 (skip (fun y => x ⟨by omega, y.1⟩)))
        rw [n37, row, show (4 : Int).toNat = 4 from rfl, n49]
        have r37 : rI (B (37 + i)) := by
          have := (hB.2.2.2.1 i a2).2.2.1
          rcases this with e | e
          · rw [e]; decide
          · rw [e.1]; decide
        refine ⟨r37, fun e => skip (fun y => y.2.1 e), fun e => ⟨⟨by omega, by omega⟩, fun g => ⟨⟨by omega, by omega⟩, ?_⟩, fun g => skip (fun y => by have := y.2.2; omega)⟩⟩
        have vv : zVa B i := ⟨a2, e, by omega⟩
        have hs := zA_same hB i a2
        refine pX12_times (by decide) (congrFun row 1) (congrFun row 2) (congrFun row 3) hB.1 hs.1.1 hs.1.2 (by decide) (by omega) ⟨⟨by omega, by omega⟩, ?_⟩
        rintro _ rfl
        have st1 : rLt m (aj_u mm [1, 1] (49 + i) (gT (B 1) (B 2) (B 3) (B (49 + i)) 1)) (zLo B i) (s + w * sumU (zWl (fun u => zSu k n (zLo B u)) B) i) (l + w * sumU (zWl (fun u => zSu 0 n (zLo B u)) B) i) := by
          refine ⟨?_, by rw [zu_off (by decide)]; exact st.2.1, by rw [zu_off (by decide)]; exact st.2.2⟩
          have := rSt_row (j := 49 + i) (v := gT (B 1) (B 2) (B 3) (B (49 + i)) 1) st.1
          rwa [← zLo_y vv] at this
        refine ih _ _ (zLo B i) _ _ w (zLo_A hB) st1 (fun m5 st5 => ⟨⟨by omega, by omega⟩, ?_⟩)
        rintro _ rfl
        have st6 := rSt_row (j := 49 + i) (v := B (49 + i)) st5.1
        have eB : tup (zLo B i) (49 + i) (B (49 + i)) = B := by
          rw [zLo_y vv, tup_tu, tup_id]
        rw [eB] at st6
        have e1 : sumU (zJl B) (i + 1) = sumU (zJl B) i := by
          show sumU (zJl B) i + zJl B i = _
          rw [(zWl_y (F := fun _ => 0) vv).2, Int.add_zero]
        have e2 : ∀ k', sumU (zWl (fun u => zSu k' n (zLo B u)) B) (i + 1) = sumU (zWl (fun u => zSu k' n (zLo B u)) B) i + zSu k' n (zLo B i) := fun k' => by
          show sumU _ i + zWl _ B i = _
          rw [(zWl_y (F := fun u => zSu k' n (zLo B u)) vv).1]
        have := ihk (i + 1) (aj_u m5 [1, 1] (49 + i) (B (49 + i))) (by omega) (by omega) ⟨st6, by rw [zu_off (by decide), e2, Int.mul_add, ← Int.add_assoc]; exact st5.2.1, by rw [zu_off (by decide), e2, Int.mul_add, ← Int.add_assoc]; exact st5.2.2⟩
        rw [e1, show (10 : Int) - ((i + 1 : Nat) : Int) + sumU (zJl B) i = 10 - (i : Int) + sumU (zJl B) i + -1 by omega] at this
        exact this
  show wbX12_goesLots f Ψ (rG5 f d) [1] k ((n + 1 : Nat) : Int) w m1
  refine ⟨⟨by omega, by omega⟩, fun _ => ?_, fun x => by omega⟩
  have := loop f 0 m1 (by omega) (by omega) (by
    show rLt m m1 B (s + w * 0) (l + w * 0)
    rw [Int.mul_zero, Int.add_zero, Int.add_zero]
    exact h)
  exact this
theorem pX12_laysLots {f n : Nat} {k : Int} {Ψ : aj_M → Prop} {m m1 : aj_M} {A : Nat → Int} (hf : 4000 ≤ f) (hA : wA A) (hk : 1 ≤ k ∧ k ≤ 60) (hn : n ≤ 2) (st : rSt m m1 A) (hK : ∀ m', rSt m m' A → m' [1] 42 = zSu k n A → m' [1] 43 = zSu 0 n A → Ψ m') : wX12_laysLots f Ψ [1] k (n : Int) m1 := by
  rintro _ rfl
  rintro _ rfl
  have st1 : rLt m (aj_u (aj_u m1 [1] 42 0) [1] 43 0) A 0 0 := ⟨rSt_fld (rSt_fld st (by decide) (by decide) (by decide)) (by decide) (by decide) (by decide), by rw [zu_tup, tup_o (by decide), zu_tup, tup_s], by rw [zu_tup, tup_s]⟩
  have fin : ∀ m', rLt m m' A (0 + 1 * zSu k n A) (0 + 1 * zSu 0 n A) → Ψ m' := fun m' h => hK m' h.1 (by have := h.2.1; omega) (by have := h.2.2; omega)
  have L0 : ∀ (d : Nat) (Ψ : aj_M → Prop) (m1 : aj_M) (B : Nat → Int) (s l w : Int), wA B → rLt m m1 B s l → (∀ m', rLt m m' B (s + w * zSu k 0 B) (l + w * zSu 0 0 B) → Ψ m') → rG5 f (d + 1) 0 Ψ [1] k ((0 : Nat) : Int) w m1 := fun d Ψ m1 B s l w hB h hK => gl_0 hf hB hk h hK
  have L1 : ∀ (d : Nat) (Ψ : aj_M → Prop) (m1 : aj_M) (B : Nat → Int) (s l w : Int), wA B → rLt m m1 B s l → (∀ m', rLt m m' B (s + w * zSu k 1 B) (l + w * zSu 0 1 B) → Ψ m') → rG5 f (d + 1 + 1) 0 Ψ [1] k ((1 : Nat) : Int) w m1 := fun d Ψ m1 B s l w hB h hK => gl_s hf (L0 d) hB h hK (by omega)
  have : n = 0 ∨ n = 1 ∨ n = 2 := by omega
  rcases this with rfl | rfl | rfl
  · exact L0 3 Ψ _ A 0 0 1 hA st1 fin
  · exact L1 2 Ψ _ A 0 0 1 hA st1 fin
  · exact gl_s (n := 1) hf (L1 1) hA st1 fin (by omega)
