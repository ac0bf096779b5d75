/-! JUDGE, the class -/
/-- what judge answers of a tray that is there: n its size, U its numbers -/
def zJu (A U : Nat → Int) (n : Nat) (w z : Int) : Prop :=
  (w = 0 → z = if (zPf U n 0 A).1 < n then ((zPf U n 0 A).1 : Int) else -1) ∧
  (w = 1 → z = if (zPf U n 0 A).1 < n then zWhy (zPf U n 0 A).2 (U (zPf U n 0 A).1) else 0) ∧
  (w = 2 → zGp (zNn (zPf U n 0 A).2) (zLk (zPf U n 0 A).2).length (zFa (zPf U n 0 A).2) (zFb (zPf U n 0 A).2) z ∧ -1 ≤ z ∧ z ≤ 120) ∧
  (w = 3 → z = (zLk (zPf U n 0 A).2).length)
theorem hX11_ju72 {f : Nat} {Φ : Int → aj_M → Prop} {m m1 : aj_M} {A : Nat → Int} {S N : Nat → Int} {V : Nat → Nat → Int} {t : Nat} {w v4 vs : Int} (hf : 1000 ≤ f) (hA : wA A) (hw : 0 ≤ w ∧ w ≤ 3) (hO : tO S N V) (hC : tC m1 S N V) (ht : t < 4) (hn : 0 ≤ N t) (h : zGs m m1 A) (hS : wS m1 [4, 0] (zPf (V t) (N t).toNat 0 A).2) (e4 : v4 = ((zPf (V t) (N t).toNat 0 A).1 : Nat)) (hvs : vs = if (zPf (V t) (N t).toNat 0 A).1 < (N t).toNat then 0 else 1) (hK : ∀ m' z, zGs m m' A → zJu A (V t) (N t).toNat w z → Φ z m') : hX11_judge_72 f Φ [0] w [t, 7, 0] v4 vs m1 := by
  have hb := tO_b hO ht
  have hv := (tO_s hO ht hn).2
  have hc := (hC t ht).2 hn
  obtain ⟨b1, b2, b3, b4, b5, b6⟩ := zPf_b (U := V t) (N t).toNat 0 A hA
  have hN := (zNn_b b3).2.2
  refine ⟨⟨by omega, by omega⟩, fun c => ?_, fun c => ⟨?_, fun d => ?_, fun d => ?_⟩, fun c => ⟨?_, fun d => ?_, fun d => ?_⟩, fun c => ?_⟩
  · refine pGuess hf hA b3 b4 h hS (fun m' st' en g n _ _ => ?_)
    rw [n.2.1]
    exact hK m' _ g ⟨fun e => by omega, fun e => by omega, fun e => by omega, fun _ => rfl⟩
  · rw [hvs]
    split <;> decide
  · refine hK m1 _ h ⟨fun _ => ?_, fun e => by omega, fun e => by omega, fun e => by omega⟩
    by_cases x : (zPf (V t) (N t).toNat 0 A).1 < (N t).toNat
    · rw [if_pos x]
      exact e4
    · rw [if_neg x] at hvs
      omega
  · refine hK m1 _ h ⟨fun _ => ?_, fun e => by omega, fun e => by omega, fun e => by omega⟩
    by_cases x : (zPf (V t) (N t).toNat 0 A).1 < (N t).toNat
    · rw [if_pos x] at hvs
      exact absurd hvs d
    · rw [if_neg x]
  · rw [hvs]
    split <;> decide
  · have x : (zPf (V t) (N t).toNat 0 A).1 < (N t).toNat := Classical.byContradiction fun x => by
      rw [if_neg x] at hvs
      omega
    refine ⟨⟨by omega, by omega⟩, ?_⟩
    rw [e4, Int.toNat_natCast, hc.2 _ (by omega)]
    have fin : zJu A (V t) (N t).toNat w (zWhy (zPf (V t) (N t).toNat 0 A).2 (V t (zPf (V t) (N t).toNat 0 A).1)) := ⟨fun e => by omega, fun _ => by rw [if_pos x], fun e => by omega, fun e => by omega⟩
    refine pX9_tryDeed b3 (zAg_P (zSg_Ag b4) hA.2.2.1.2 h.2.2.2.2.1) hS (by decide) (hv _ (by omega)) (fun g => hK m1 _ h fin) (fun g => absurd g (b6 (by omega)))
  · refine hK m1 _ h ⟨fun e => by omega, fun _ => ?_, fun e => by omega, fun e => by omega⟩
    by_cases x : (zPf (V t) (N t).toNat 0 A).1 < (N t).toNat
    · rw [if_pos x] at hvs
      exact absurd hvs d
    · rw [if_neg x]
  · refine pGuessRing (Φ := fun z4 m4 => wX11_orNone f (fun z5 m5 => Φ z5 m5) z4 m4) hf hA b3 b4 h hS (fun m' z g gi _ _ => ?_)
    exact pOrNone gi hN (fun u hu u1 u2 => hK m' u g ⟨fun e => by omega, fun e => by omega, fun _ => ⟨hu, u1, u2⟩, fun e => by omega⟩)
def zJa (N : Nat → Int) (v w : Int) : Int := if 0 ≤ w ∧ w ≤ 3 then tA N v else -2
theorem pX11_judge {f : Nat} {Φ : Int → aj_M → Prop} {m : aj_M} {A : Nat → Int} {S N : Nat → Int} {V : Nat → Nat → Int} {v w : Int} (hf : 1000 ≤ f) (hA : wA A) (hP : wP m [1, 0] A) (hKp : wK m [1, 0] A) (hvi : ∀ k, rI (m [12, 9, 0] k)) (hS : wS m [2, 0] A) (hO : tO S N V) (hC : tC m S N V) (hv : rI v) (hw : rI w) (hbad : zJa N v w ≠ 0 → Φ (zJa N v w) m) (hK : ∀ t : Nat, v = t → t < 4 → 0 ≤ N t → 0 ≤ w → w ≤ 3 → ∀ m' z, zGs m m' A → zJu A (V t) (N t).toNat w z → Φ z m') : wX11_judge f Φ [0] v w m := by
  refine pX11_isTray hv (fun a b => zb1 ⟨hw, fun c => ?_, fun c => ⟨hw, fun d => ⟨⟨a, b⟩, ?_⟩, fun d => ?_⟩⟩) (fun c => zb0 ?_)
  · rw [zJa, if_neg (by omega)] at hbad
    exact hbad (by decide)
  · obtain ⟨t, rfl⟩ : ∃ t : Nat, v = t := ⟨v.toNat, by omega⟩
    have ht : t < 4 := by omega
    have hb := tO_b hO ht
    have hc := hC t ht
    rw [Int.toNat_natCast]
    refine ⟨by rw [hc.1]; exact ⟨by omega, by omega⟩, fun e => zb0 ?_, fun e => zb1 ?_⟩
    · rw [hc.1] at e
      have h0 := zGs_0 hP hKp hvi
      refine pX9_copyFrom (by decide) (by decide) (by decide) ?_
      intro m1 z1 s1
      have s1 := s1 A hA.2.2.1.2 hS
      have g1 := zGs_s h0 z1
      have hC1 : tC m1 S N V := tC_off hC (fun t => z1 _ (by simp)) (fun t => z1 _ (by simp))
      refine pX11_doAll (by omega) (Or.inr rfl) hA g1.2.2.2.2.1 s1 hO hC1 ht e ?_
      intro m2 z2 s2
      have g2 := zGs_s g1 z2
      have hC2 : tC m2 S N V := tC_off hC1 (fun t => z2 _ (by simp)) (fun t => z2 _ (by simp))
      obtain ⟨b1, b2, b3, b4, b5, b6⟩ := zPf_b (U := V t) (N t).toNat 0 A hA
      rw [(hC2 t ht).1]
      refine ⟨⟨by omega, by omega⟩, ⟨by omega, by omega⟩, fun x => ?_, fun x => ?_⟩
      · exact hX11_ju72 hf hA ⟨by omega, d⟩ hO hC2 ht e g2 s2 rfl (by rw [if_pos (by omega)]) (hK t rfl ht e (by omega) d)
      · exact hX11_ju72 hf hA ⟨by omega, d⟩ hO hC2 ht e g2 s2 rfl (by rw [if_neg (by omega)]) (hK t rfl ht e (by omega) d)
    · rw [hc.1] at e
      rw [zJa, if_pos ⟨by omega, d⟩, tA, if_pos ⟨a, b⟩, Int.toNat_natCast, if_neg e] at hbad
      exact hbad (by decide)
  · rw [zJa, if_neg (by omega)] at hbad
    exact hbad (by decide)
  · by_cases g : 0 ≤ w ∧ w ≤ 3
    · rw [zJa, if_pos g, tA, if_neg c] at hbad
      exact hbad (by decide)
    · rw [zJa, if_neg g] at hbad
      exact hbad (by decide)
