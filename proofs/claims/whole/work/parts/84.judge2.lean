/-! JUDGE, the reference -/
def rSl : List (List Nat) := [[1], [1, 1], [16, 1], [17, 1], [18, 1], [19, 1], [20, 1], [21, 1], [24, 1], [25, 1], [26, 1], [27, 1], [41, 1]]
def rSt (m m' : aj_M) (A : Nat → Int) : Prop := zo rSl m m' ∧ (m' [1] 5 = m [1] 5 ∧ m' [1] 13 = m [1] 13 ∧ m' [1] 14 = m [1] 14) ∧ m' [1, 1] = A
theorem pX12_judge {f : Nat} {Φ : Int → aj_M → Prop} {m : aj_M} {A : Nat → Int} {S N : Nat → Int} {V : Nat → Nat → Int} {v w : Int} (hf : 4000 ≤ f) (hA : wA A) (hm : m [1, 1] = A) (hO : tO S N V) (hR : tR m S N V) (hv : rI v) (hw : rI w) (hbad : zJa N v w ≠ 0 → Φ (zJa N v w) (rZ m)) (hK : ∀ t : Nat, v = t → t < 4 → 0 ≤ N t → 0 ≤ w → w ≤ 3 → ∀ m' z, rSt m m' A → zJu A (V t) (N t).toNat w z → Φ z m') : wX12_judge f Φ [1] v w m := by
  rintro m1 rfl
  have d1 := rDd_rZ hm
  have e1 : aj_u m [1] 0 0 [1, 1] = A := d1.2.2
  refine ⟨hw, pW12_within (rL_rI hw) (by decide) (by decide) (fun a b => zc1 ?_) (fun a => zc0 ?_)⟩
  · rw [zJa, if_pos ⟨a, b⟩] at hbad
    refine pX12_noTray hO (tR_rZ hR) hv ⟨tA_r, fun c => ?_, fun c => hbad c⟩
    obtain ⟨t, rfl, ht, hn⟩ := tA_0 c
    have hb := tO_b hO ht
    have hK := hK t rfl ht hn a b
    refine pX12_stores (by omega) (fun W hW => ?_)
    have d2 : rDd m (aj_ur (aj_u m [1] 0 0) [27, 1] W) A := rDd_27 d1
    refine pX12_tells (by omega) hA d2 hO hR ht hn ?_
    intro m3 d3 e3 e28
    obtain ⟨b1, b2, b3, b4, b5, b6⟩ := zPf_b (U := V t) (N t).toNat 0 A hA
    have hN := (zNn_b b3).2.2
    refine pX12_laysNet b3 (fun j _ => congrFun d3.2.2 j) hf ?_
    intro m4 n1 _ _ n4 n5
    have r11 : m4 [1, 1] = m3 [1, 1] := n4 _ (by decide)
    have r27 : m4 [27, 1] = m3 [27, 1] := n4 _ (by decide)
    refine pX12_isAgain (by omega) (r11.trans d3.2.2) b4 (fun k hk => by rw [r27, e3, zm_urs, hW k hk, e1]) ?_
    have f28 : aj_ur m4 [1, 1] A [1] 28 = m3 [1] 28 := by
      rw [zm_uro (by decide)]
      exact n5 28 (by decide) (by decide)
    have st : rSt m (aj_ur m4 [1, 1] A) A := by
      refine ⟨fun p hp => ?_, ⟨?_, ?_, ?_⟩, zm_urs⟩
      · simp only [rSl, List.mem_cons, List.not_mem_nil, or_false, not_or] at hp
        obtain ⟨p0, p1, p16, p17, p18, p19, p20, p21, p24, p25, p26, p27, p41⟩ := hp
        rw [zm_uro p1, n4 p (by simp [p0, p16, p17, p18, p19, p20, p21]), d3.1 p (by simp [p0, p27, p1])]
      · rw [zm_uro (by decide), n5 5 (by decide) (by decide)]
        exact d3.2.1 5 (by decide) (by decide) (by decide)
      · rw [zm_uro (by decide), n5 13 (by decide) (by decide)]
        exact d3.2.1 13 (by decide) (by decide) (by decide)
      · rw [zm_uro (by decide), n5 14 (by decide) (by decide)]
        exact d3.2.1 14 (by decide) (by decide) (by decide)
    have nR7 : nR (aj_ur m4 [1, 1] A) [1] (zNn (zPf (V t) (N t).toNat 0 A).2) (zLk (zPf (V t) (N t).toNat 0 A).2).length (zFa (zPf (V t) (N t).toNat 0 A).2) (zFb (zPf (V t) (N t).toNat 0 A).2) := nR_of n1 (by rw [zm_uro (by decide)]) (by rw [zm_uro (by decide)]) (zm_uro (by decide)) (zm_uro (by decide))
    refine ⟨hw, fun c => ⟨hw, fun c1 => ⟨hw, fun c2 => ?_, fun c2 => ?_⟩, fun c1 => ?_⟩, fun c => ?_⟩
    · rw [nR7.1]
      exact hK _ _ st ⟨fun e => absurd e c, fun e => absurd e c1, fun e => absurd e c2, fun _ => rfl⟩
    · refine pX12_girthNow nR7 (by omega) ?_
      intro z d br qu gi
      have st' : rSt m (rB (aj_ur m4 [1, 1] A) [1] d br qu) A := by
        refine ⟨fun p hp => ?_, ?_, ?_⟩
        · rw [← st.1 p hp]
          simp only [rSl, List.mem_cons, List.not_mem_nil, or_false, not_or] at hp
          obtain ⟨p0, p1, p16, p17, p18, p19, p20, p21, p24, p25, p26, p27, p41⟩ := hp
          exact rB_off p24 p25 p26
        · rw [rB_off (by decide) (by decide) (by decide)]
          exact st.2.1
        · rw [rB_off (by decide) (by decide) (by decide)]
          exact st.2.2
      exact pToldFar gi hN (fun u hu u1 u2 => hK _ u st' ⟨fun e => absurd e c, fun e => absurd e c1, fun _ => ⟨hu, u1, u2⟩, fun e => by omega⟩)
    · rw [f28, e28]
      refine hK _ _ st ⟨fun e => absurd e c, fun _ => ?_, fun e => by omega, fun e => by omega⟩
      by_cases x : (zPf (V t) (N t).toNat 0 A).1 = (N t).toNat
      · rw [if_pos x, if_neg (by omega)]
      · rw [if_neg x, if_pos (by omega)]
    · rw [f28, e28]
      by_cases x : (zPf (V t) (N t).toNat 0 A).1 = (N t).toNat
      · rw [if_pos x]
        refine ⟨by decide, fun y => absurd rfl y, fun _ => hK _ _ st ⟨fun _ => ?_, fun e => by omega, fun e => by omega, fun e => by omega⟩⟩
        rw [if_neg (by omega)]
      · rw [if_neg x]
        refine ⟨zWhy_r, fun y => hK _ _ st ⟨fun _ => ?_, fun e => by omega, fun e => by omega, fun e => by omega⟩, fun y => absurd y (b6 (by omega))⟩
        rw [if_pos (by omega)]
  · rw [zJa, if_neg a] at hbad
    exact hbad (by decide)
