/-! READING A LAW: both readers at once -/
def zts : List Int → List Bool → Option (List Bool)
  | [], ts => some ts
  | c :: cs, ts => match ztc c ts with
    | none => none
    | some ts' => if ts'.length ≤ 60 then zts cs ts' else none
theorem zts_app {b : List Int} : ∀ {a : List Int} {ts ts' : List Bool}, zts a ts = some ts' → zts (a ++ b) ts = zts b ts'
  | [], ts, ts', h => by
    have e : ts = ts' := Option.some.inj h
    subst e
    rfl
  | c :: a, ts, ts', h => by
    show (match ztc c ts with
      | none => none
      | some ts' => if ts'.length ≤ 60 then zts (a ++ b) ts' else none) = _
    have h : (match ztc c ts with
      | none => none
      | some ts' => if ts'.length ≤ 60 then zts a ts' else none) = some ts' := h
    cases hc : ztc c ts with
    | none =>
      rw [hc] at h
      cases h
    | some t1 =>
      rw [hc] at h
      simp only at h ⊢
      split at h
      · next g =>
        rw [if_pos g]
        exact zts_app h
      · cases h
theorem zts_1 {c : Int} {ts ts' : List Bool} (h : ztc c ts = some ts') (hl : ts'.length ≤ 60) : zts [c] ts = some ts' := by
  unfold zts
  rw [h]
  simp only
  rw [if_pos hl]
  rfl
def gd (n b D : Nat) (ty : Bool) : (Nat × List Int) ⊕ (Int × Int) → Prop
  | .inl (b', e) => b < b' ∧ b' ≤ n ∧ e.length + b ≤ b' ∧ ∀ ts : List Bool, ts.length + D ≤ 60 → zts e ts = some (ty :: ts)
  | .inr (k, a) => (1 ≤ k ∧ k ≤ 4) ∧ 0 ≤ a ∧ a ≤ 900
def gl (n b D : Nat) (ty : Bool) : (Nat × List Int) ⊕ (Int × Int) → Prop
  | .inl (b', e) => b ≤ b' ∧ b' ≤ n ∧ e.length + b ≤ b' ∧ ∀ ts : List Bool, ts.length + D ≤ 60 → zts e (ty :: ts) = some (ty :: ts)
  | .inr (k, a) => (1 ≤ k ∧ k ≤ 4) ∧ 0 ≤ a ∧ a ≤ 900
def cnC (Φ : Int → aj_M → Prop) (m : aj_M) (T : Nat → Int) (n : Nat) (c : List Int) : (Nat × List Int) ⊕ (Int × Int) → Prop
  | .inl (b', e) => ∀ m', pcF m m' → pcC m' T n b' (c ++ e) → Φ 1 m'
  | .inr (k, a) => ∀ m', pcF m m' → pcX m' k a → Φ 0 m'
def cnR (Ψ : aj_M → Prop) (m : aj_M) (T : Nat → Int) (n : Nat) (c : List Int) : (Nat × List Int) ⊕ (Int × Int) → Prop
  | .inl (b', e) => ∀ m', prF m m' → prR m' T n b' (c ++ e) → Ψ m'
  | .inr (k, a) => ∀ m', prF m m' → prX m' k a → Ψ m'
def zpre (e0 : List Int) : (Nat × List Int) ⊕ (Int × Int) → (Nat × List Int) ⊕ (Int × Int)
  | .inl (b, e) => .inl (b, e0 ++ e)
  | .inr x => .inr x
theorem cnC_pre {Φ : Int → aj_M → Prop} {m m' : aj_M} {T : Nat → Int} {n : Nat} {c e0 : List Int} {r : (Nat × List Int) ⊕ (Int × Int)} (h : pcF m m') (k : cnC Φ m T n c (zpre e0 r)) : cnC Φ m' T n (c ++ e0) r := by
  rcases r with ⟨b, e⟩ | ⟨x, a⟩
  · intro m2 f1 f2
    exact k m2 (pcF_t h f1) (by rw [← List.append_assoc]; exact f2)
  · intro m2 f1 f2
    exact k m2 (pcF_t h f1) f2
theorem cnR_pre {Φ : aj_M → Prop} {m m' : aj_M} {T : Nat → Int} {n : Nat} {c e0 : List Int} {r : (Nat × List Int) ⊕ (Int × Int)} (h : prF m m') (k : cnR Φ m T n c (zpre e0 r)) : cnR Φ m' T n (c ++ e0) r := by
  rcases r with ⟨b, e⟩ | ⟨x, a⟩
  · intro m2 f1 f2
    exact k m2 (prF_t h f1) (by rw [← List.append_assoc]; exact f2)
  · intro m2 f1 f2
    exact k m2 (prF_t h f1) f2
def zPN (f : Nat) (T : Nat → Int) (n t t' k D : Nat) (ty : Bool) (v : Nat) : Prop := ∀ (b : Nat) (c : List Int), b ≤ n → c.length ≤ b → ∃ r, gd n b D ty r ∧ (∀ d, 8 * (6 - v) + k ≤ d → ∀ (Φ : Int → aj_M → Prop) (m : aj_M), pcC m T n b c → cnC Φ m T n c r → rG7 f d t Φ [0, 0] (v : Int) m) ∧ (∀ d, 8 * (6 - v) + k ≤ d → ∀ (Ψ : aj_M → Prop) (m : aj_M), prR m T n b c → cnR Ψ m T n c r → rG8 f d t' Ψ [1] (v : Int) m)
section RLS
variable {f n : Nat} {T : Nat → Int}
theorem rG7_0 {d : Nat} {Φ : Int → aj_M → Prop} {q : List Nat} {v : Int} {m : aj_M} (h : wbX7_readTruth f Φ (rG7 f d) q v m) : rG7 f (d + 1) 0 Φ q v m := h
theorem rG7_1 {d : Nat} {Φ : Int → aj_M → Prop} {q : List Nat} {v : Int} {m : aj_M} (h : wbX7_readBoth f Φ (rG7 f d) q v m) : rG7 f (d + 1) 1 Φ q v m := h
theorem rG7_2 {d : Nat} {Φ : Int → aj_M → Prop} {q : List Nat} {v : Int} {m : aj_M} (h : wbX7_readUnit f Φ (rG7 f d) q v m) : rG7 f (d + 1) 2 Φ q v m := h
theorem rG7_3 {d : Nat} {Φ : Int → aj_M → Prop} {q : List Nat} {v : Int} {m : aj_M} (h : wbX7_readComparison f Φ (rG7 f d) q v m) : rG7 f (d + 1) 3 Φ q v m := h
theorem rG7_4 {d : Nat} {Φ : Int → aj_M → Prop} {q : List Nat} {v : Int} {m : aj_M} (h : wbX7_readSum f Φ (rG7 f d) q v m) : rG7 f (d + 1) 4 Φ q v m := h
theorem rG7_5 {d : Nat} {Φ : Int → aj_M → Prop} {q : List Nat} {v : Int} {m : aj_M} (h : wbX7_readTerm f Φ (rG7 f d) q v m) : rG7 f (d + 1) 5 Φ q v m := h
theorem rG7_6 {d : Nat} {Φ : Int → aj_M → Prop} {q : List Nat} {v : Int} {m : aj_M} (h : wbX7_readAtom f Φ (rG7 f d) q v m) : rG7 f (d + 1) 6 Φ q v m := h
theorem rG7_7 {d : Nat} {Φ : Int → aj_M → Prop} {q : List Nat} {v : Int} {m : aj_M} (h : wbX7_readNested f Φ (rG7 f d) q v m) : rG7 f (d + 1) 7 Φ q v m := h
theorem rG8_0 {d : Nat} {Φ : aj_M → Prop} {q : List Nat} {v : Int} {m : aj_M} (h : wbX12_readTruth f Φ (rG8 f d) q v m) : rG8 f (d + 1) 0 Φ q v m := h
theorem rG8_1 {d : Nat} {Φ : aj_M → Prop} {q : List Nat} {v : Int} {m : aj_M} (h : wbX12_readBoth f Φ (rG8 f d) q v m) : rG8 f (d + 1) 1 Φ q v m := h
theorem rG8_2 {d : Nat} {Φ : aj_M → Prop} {q : List Nat} {v : Int} {m : aj_M} (h : wbX12_readUnit f Φ (rG8 f d) q v m) : rG8 f (d + 1) 2 Φ q v m := h
theorem rG8_3 {d : Nat} {Φ : aj_M → Prop} {q : List Nat} {v : Int} {m : aj_M} (h : wbX12_readSum f Φ (rG8 f d) q v m) : rG8 f (d + 1) 3 Φ q v m := h
theorem rG8_4 {d : Nat} {Φ : aj_M → Prop} {q : List Nat} {v : Int} {m : aj_M} (h : wbX12_readTerm f Φ (rG8 f d) q v m) : rG8 f (d + 1) 4 Φ q v m := h
theorem rG8_5 {d : Nat} {Φ : aj_M → Prop} {q : List Nat} {v : Int} {m : aj_M} (h : wbX12_readAtom f Φ (rG8 f d) q v m) : rG8 f (d + 1) 5 Φ q v m := h
theorem rG8_6 {d : Nat} {Φ : aj_M → Prop} {q : List Nat} {v : Int} {m : aj_M} (h : wbX12_readIf f Φ (rG8 f d) q v m) : rG8 f (d + 1) 6 Φ q v m := h
theorem lpD_Truth {Ψ : aj_M → Prop} {R : Nat → (aj_M → Prop) → List Nat → Int → aj_M → Prop} {v : Int} {m : aj_M} (h : prD m) (h0 : Ψ m) : ∀ k, 0 < k → hX12_readTruth_5 f Ψ R k [1] v m
  | 0, x => absurd x (by omega)
  | k + 1, _ => pr_eatsD h (zb0 h0)
theorem lp_Truth (O : tpOK f T n) {v D : Nat} (hP : zPN f T n 1 1 7 D true v) : ∀ (w b : Nat) (c : List Int), n - b ≤ w → b ≤ n → c.length ≤ b → ∃ r, gl n b (D + 1) true r ∧ (∀ d, 8 * (6 - v) + 7 ≤ d → ∀ (Φ : Int → aj_M → Prop) (m : aj_M) (i k : Nat), i ≤ b → n - b < k → pcC m T n b c → cnC Φ m T n c r → hX7_readTruth_12 f Φ (rG7 f d) k [0, 0] (v : Int) (i : Int) m) ∧ (∀ d, 8 * (6 - v) + 7 ≤ d → ∀ (Ψ : aj_M → Prop) (m : aj_M) (k : Nat), n - b < k → prR m T n b c → cnR Ψ m T n c r → hX12_readTruth_5 f Ψ (rG8 f d) k [1] (v : Int) m) := by
  have hf := O.1
  have hn := O.2.2
  intro w
  induction w with
  | zero =>
    intro b c hw hb hc
    have g : tkK T n b ≠ 20 := fun x => by
      have := tk_more (T := T) hb (by omega)
      have := tkA_b (T := T) hb
      omega
    refine ⟨.inl (b, []), ⟨by omega, hb, by simp, fun ts _ => rfl⟩, fun d hd Φ m i k hi hk hC hΦ => ?_, fun d hd Ψ m k hk hR hΨ => ?_⟩
    · obtain ⟨k, rfl⟩ : ∃ k', k = k' + 1 := ⟨k - 1, by omega⟩
      have e := hΦ m pcF_r (by rw [List.append_nil]; exact hC)
      refine ⟨⟨by omega, by omega⟩, by rw [hC.2.1]; exact ⟨by omega, by omega⟩, fun _ => e, fun _ => ⟨pc_r7 hC, fun _ => e, fun x => absurd ((pc_is hC (Or.inl (by omega)) (by decide)).mp x) g⟩⟩
    · obtain ⟨k, rfl⟩ : ∃ k', k = k' + 1 := ⟨k - 1, by omega⟩
      exact pr_eats O hb hR (Or.inl (by omega)) (fun x => absurd x g) (fun _ => zb0 (hΨ m prF_r (by rw [List.append_nil]; exact hR)))
  | succ w ih =>
    intro b c hw hb hc
    have hA := tkA_b (T := T) hb
    by_cases g : tkK T n b = 20
    · obtain ⟨hE1, hE2⟩ := tk_more (T := T) hb (by omega)
      have hE := tkE_b (T := T) hb
      obtain ⟨r1, g1, g2, g3⟩ := hP (tkE T n b) c hE.2 (by omega)
      have iC : ∀ {m : aj_M}, pcC m T n b c → m [0, 0] 7 = 221 := fun hC => (pc_is hC (Or.inl (by omega)) (by decide)).mpr g
      rcases r1 with ⟨b2, e1⟩ | ⟨k1, a1⟩
      · obtain ⟨q1, q2, q3, q4⟩ := g1
        obtain ⟨r2, l1, l2, l3⟩ := ih b2 (c ++ (e1 ++ [3008])) (by omega) q2 (by simp only [List.length_append, List.length_singleton]; omega)
        refine ⟨zpre (e1 ++ [3008]) r2, ?_, fun d hd Φ m i k hi hk hC hΦ => ?_, fun d hd Ψ m k hk hR hΨ => ?_⟩
        · rcases r2 with ⟨b3, e3⟩ | ⟨k3, a3⟩
          · obtain ⟨p1, p2, p3, p4⟩ := l1
            refine ⟨by omega, p2, by simp only [List.length_append, List.length_singleton]; omega, fun ts hts => ?_⟩
            have t1 := q4 (true :: ts) (by simp only [List.length_cons]; omega)
            have t2 : zts [3008] (true :: true :: ts) = some (true :: ts) := zts_1 rfl (by simp only [List.length_cons]; omega)
            rw [zts_app ((zts_app t1).trans t2)]
            exact p4 ts hts
          · exact l1
        · obtain ⟨k, rfl⟩ : ∃ k', k = k' + 1 := ⟨k - 1, by omega⟩
          refine ⟨⟨by omega, by omega⟩, by rw [hC.2.1]; exact ⟨by omega, by omega⟩, fun x => by rw [hC.2.1] at x; omega, fun _ => ⟨pc_r7 hC, fun x => absurd (iC hC) x, fun _ => pc_step O hb hC (fun m1 f1 p1 => g2 d hd _ m1 p1 (fun m2 f2 p2 => zc1 ?_))⟩⟩
          refine pc_add (cd := 3008) (by simp only [List.length_append]; omega) (by decide) p2 (fun m3 f3 p3 => ?_)
          rw [List.append_assoc] at p3
          exact l2 d hd Φ m3 (i + 1) k (by omega) (by omega) p3 (cnC_pre (pcF_t f1 (pcF_t f2 f3)) hΦ)
        · obtain ⟨k, rfl⟩ : ∃ k', k = k' + 1 := ⟨k - 1, by omega⟩
          refine pr_eats O hb hR (Or.inl (by omega)) (fun x m1 f1 p1 => zb1 (g3 d hd _ m1 p1 (fun m2 f2 p2 => ?_))) (fun x => absurd g x)
          refine pr_codes (by simp only [List.length_append]; omega) p2 (fun m3 f3 p3 => ?_)
          rw [List.append_assoc] at p3
          exact l3 d hd Ψ m3 k (by omega) p3 (cnR_pre (prF_t f1 (prF_t f2 f3)) hΨ)
      · refine ⟨.inr (k1, a1), g1, fun d hd Φ m i k hi hk hC hΦ => ?_, fun d hd Ψ m k hk hR hΨ => ?_⟩
        · obtain ⟨k, rfl⟩ : ∃ k', k = k' + 1 := ⟨k - 1, by omega⟩
          exact ⟨⟨by omega, by omega⟩, by rw [hC.2.1]; exact ⟨by omega, by omega⟩, fun x => by rw [hC.2.1] at x; omega, fun _ => ⟨pc_r7 hC, fun x => absurd (iC hC) x, fun _ => pc_step O hb hC (fun m1 f1 p1 => g2 d hd _ m1 p1 (fun m2 f2 p2 => zc0 (hΦ m2 (pcF_t f1 f2) p2)))⟩⟩
        · obtain ⟨k, rfl⟩ : ∃ k', k = k' + 1 := ⟨k - 1, by omega⟩
          refine pr_eats O hb hR (Or.inl (by omega)) (fun x m1 f1 p1 => zb1 (g3 d hd _ m1 p1 (fun m2 f2 p2 => ?_))) (fun x => absurd g x)
          have hD := prX_D p2 g1.1
          exact pr_codesD hD (lpD_Truth hD (hΨ m2 (prF_t f1 f2) p2) k (by omega))
    · refine ⟨.inl (b, []), ⟨by omega, hb, by simp, fun ts _ => rfl⟩, fun d hd Φ m i k hi hk hC hΦ => ?_, fun d hd Ψ m k hk hR hΨ => ?_⟩
      · obtain ⟨k, rfl⟩ : ∃ k', k = k' + 1 := ⟨k - 1, by omega⟩
        have e := hΦ m pcF_r (by rw [List.append_nil]; exact hC)
        refine ⟨⟨by omega, by omega⟩, by rw [hC.2.1]; exact ⟨by omega, by omega⟩, fun _ => e, fun _ => ⟨pc_r7 hC, fun _ => e, fun x => absurd ((pc_is hC (Or.inl (by omega)) (by decide)).mp x) g⟩⟩
      · obtain ⟨k, rfl⟩ : ∃ k', k = k' + 1 := ⟨k - 1, by omega⟩
        exact pr_eats O hb hR (Or.inl (by omega)) (fun x => absurd x g) (fun _ => zb0 (hΨ m prF_r (by rw [List.append_nil]; exact hR)))
theorem pn_Truth (O : tpOK f T n) {v D : Nat} (hP : zPN f T n 1 1 7 D true v) : zPN f T n 0 0 (7 + 1) (D + 1) true v := by
  have hf := O.1
  have hn := O.2.2
  intro b c hb hc
  obtain ⟨r1, g1, g2, g3⟩ := hP b c hb hc
  rcases r1 with ⟨b1, e1⟩ | ⟨k1, a1⟩
  · obtain ⟨q1, q2, q3, q4⟩ := g1
    obtain ⟨r2, l1, l2, l3⟩ := lp_Truth O hP (n - b1) b1 (c ++ e1) (by omega) q2 (by simp only [List.length_append]; omega)
    refine ⟨zpre e1 r2, ?_, fun d hd Φ m hC hΦ => ?_, fun d hd Ψ m hR hΨ => ?_⟩
    · rcases r2 with ⟨b3, e3⟩ | ⟨k3, a3⟩
      · obtain ⟨p1, p2, p3, p4⟩ := l1
        refine ⟨by omega, p2, by simp only [List.length_append]; omega, fun ts hts => ?_⟩
        rw [zts_app (q4 ts (by omega))]
        exact p4 ts (by omega)
      · exact l1
    · obtain ⟨d, rfl⟩ : ∃ d', d = d' + 1 := ⟨d - 1, by omega⟩
      exact rG7_0 (g2 d (by omega) _ m hC (fun m1 f1 p1 => zc1 (l2 d (by omega) Φ m1 0 f (by omega) (by omega) p1 (cnC_pre f1 hΦ))))
    · obtain ⟨d, rfl⟩ : ∃ d', d = d' + 1 := ⟨d - 1, by omega⟩
      exact rG8_0 (g3 d (by omega) _ m hR (fun m1 f1 p1 => l3 d (by omega) Ψ m1 f (by omega) p1 (cnR_pre f1 hΨ)))
  · refine ⟨.inr (k1, a1), g1, fun d hd Φ m hC hΦ => ?_, fun d hd Ψ m hR hΨ => ?_⟩
    · obtain ⟨d, rfl⟩ : ∃ d', d = d' + 1 := ⟨d - 1, by omega⟩
      exact rG7_0 (g2 d (by omega) _ m hC (fun m1 f1 p1 => zc0 (hΦ m1 f1 p1)))
    · obtain ⟨d, rfl⟩ : ∃ d', d = d' + 1 := ⟨d - 1, by omega⟩
      exact rG8_0 (g3 d (by omega) _ m hR (fun m1 f1 p1 => lpD_Truth (prX_D p1 g1.1) (hΨ m1 f1 p1) f (by omega)))
theorem lpD_Both {Ψ : aj_M → Prop} {R : Nat → (aj_M → Prop) → List Nat → Int → aj_M → Prop} {v : Int} {m : aj_M} (h : prD m) (h0 : Ψ m) : ∀ k, 0 < k → hX12_readBoth_5 f Ψ R k [1] v m
  | 0, x => absurd x (by omega)
  | k + 1, _ => pr_eatsD h (zb0 h0)
theorem lp_Both (O : tpOK f T n) {v D : Nat} (hP : zPN f T n 2 2 6 D true v) : ∀ (w b : Nat) (c : List Int), n - b ≤ w → b ≤ n → c.length ≤ b → ∃ r, gl n b (D + 1) true r ∧ (∀ d, 8 * (6 - v) + 6 ≤ d → ∀ (Φ : Int → aj_M → Prop) (m : aj_M) (i k : Nat), i ≤ b → n - b < k → pcC m T n b c → cnC Φ m T n c r → hX7_readBoth_12 f Φ (rG7 f d) k [0, 0] (v : Int) (i : Int) m) ∧ (∀ d, 8 * (6 - v) + 6 ≤ d → ∀ (Ψ : aj_M → Prop) (m : aj_M) (k : Nat), n - b < k → prR m T n b c → cnR Ψ m T n c r → hX12_readBoth_5 f Ψ (rG8 f d) k [1] (v : Int) m) := by
  have hf := O.1
  have hn := O.2.2
  intro w
  induction w with
  | zero =>
    intro b c hw hb hc
    have g : tkK T n b ≠ 19 := fun x => by
      have := tk_more (T := T) hb (by omega)
      have := tkA_b (T := T) hb
      omega
    refine ⟨.inl (b, []), ⟨by omega, hb, by simp, fun ts _ => rfl⟩, fun d hd Φ m i k hi hk hC hΦ => ?_, fun d hd Ψ m k hk hR hΨ => ?_⟩
    · obtain ⟨k, rfl⟩ : ∃ k', k = k' + 1 := ⟨k - 1, by omega⟩
      have e := hΦ m pcF_r (by rw [List.append_nil]; exact hC)
      refine ⟨⟨by omega, by omega⟩, by rw [hC.2.1]; exact ⟨by omega, by omega⟩, fun _ => e, fun _ => ⟨pc_r7 hC, fun _ => e, fun x => absurd ((pc_is hC (Or.inl (by omega)) (by decide)).mp x) g⟩⟩
    · obtain ⟨k, rfl⟩ : ∃ k', k = k' + 1 := ⟨k - 1, by omega⟩
      exact pr_eats O hb hR (Or.inl (by omega)) (fun x => absurd x g) (fun _ => zb0 (hΨ m prF_r (by rw [List.append_nil]; exact hR)))
  | succ w ih =>
    intro b c hw hb hc
    have hA := tkA_b (T := T) hb
    by_cases g : tkK T n b = 19
    · obtain ⟨hE1, hE2⟩ := tk_more (T := T) hb (by omega)
      have hE := tkE_b (T := T) hb
      obtain ⟨r1, g1, g2, g3⟩ := hP (tkE T n b) c hE.2 (by omega)
      have iC : ∀ {m : aj_M}, pcC m T n b c → m [0, 0] 7 = 220 := fun hC => (pc_is hC (Or.inl (by omega)) (by decide)).mpr g
      rcases r1 with ⟨b2, e1⟩ | ⟨k1, a1⟩
      · obtain ⟨q1, q2, q3, q4⟩ := g1
        obtain ⟨r2, l1, l2, l3⟩ := ih b2 (c ++ (e1 ++ [3007])) (by omega) q2 (by simp only [List.length_append, List.length_singleton]; omega)
        refine ⟨zpre (e1 ++ [3007]) r2, ?_, fun d hd Φ m i k hi hk hC hΦ => ?_, fun d hd Ψ m k hk hR hΨ => ?_⟩
        · rcases r2 with ⟨b3, e3⟩ | ⟨k3, a3⟩
          · obtain ⟨p1, p2, p3, p4⟩ := l1
            refine ⟨by omega, p2, by simp only [List.length_append, List.length_singleton]; omega, fun ts hts => ?_⟩
            have t1 := q4 (true :: ts) (by simp only [List.length_cons]; omega)
            have t2 : zts [3007] (true :: true :: ts) = some (true :: ts) := zts_1 rfl (by simp only [List.length_cons]; omega)
            rw [zts_app ((zts_app t1).trans t2)]
            exact p4 ts hts
          · exact l1
        · obtain ⟨k, rfl⟩ : ∃ k', k = k' + 1 := ⟨k - 1, by omega⟩
          refine ⟨⟨by omega, by omega⟩, by rw [hC.2.1]; exact ⟨by omega, by omega⟩, fun x => by rw [hC.2.1] at x; omega, fun _ => ⟨pc_r7 hC, fun x => absurd (iC hC) x, fun _ => pc_step O hb hC (fun m1 f1 p1 => g2 d hd _ m1 p1 (fun m2 f2 p2 => zc1 ?_))⟩⟩
          refine pc_add (cd := 3007) (by simp only [List.length_append]; omega) (by decide) p2 (fun m3 f3 p3 => ?_)
          rw [List.append_assoc] at p3
          exact l2 d hd Φ m3 (i + 1) k (by omega) (by omega) p3 (cnC_pre (pcF_t f1 (pcF_t f2 f3)) hΦ)
        · obtain ⟨k, rfl⟩ : ∃ k', k = k' + 1 := ⟨k - 1, by omega⟩
          refine pr_eats O hb hR (Or.inl (by omega)) (fun x m1 f1 p1 => zb1 (g3 d hd _ m1 p1 (fun m2 f2 p2 => ?_))) (fun x => absurd g x)
          refine pr_codes (by simp only [List.length_append]; omega) p2 (fun m3 f3 p3 => ?_)
          rw [List.append_assoc] at p3
          exact l3 d hd Ψ m3 k (by omega) p3 (cnR_pre (prF_t f1 (prF_t f2 f3)) hΨ)
      · refine ⟨.inr (k1, a1), g1, fun d hd Φ m i k hi hk hC hΦ => ?_, fun d hd Ψ m k hk hR hΨ => ?_⟩
        · obtain ⟨k, rfl⟩ : ∃ k', k = k' + 1 := ⟨k - 1, by omega⟩
          exact ⟨⟨by omega, by omega⟩, by rw [hC.2.1]; exact ⟨by omega, by omega⟩, fun x => by rw [hC.2.1] at x; omega, fun _ => ⟨pc_r7 hC, fun x => absurd (iC hC) x, fun _ => pc_step O hb hC (fun m1 f1 p1 => g2 d hd _ m1 p1 (fun m2 f2 p2 => zc0 (hΦ m2 (pcF_t f1 f2) p2)))⟩⟩
        · obtain ⟨k, rfl⟩ : ∃ k', k = k' + 1 := ⟨k - 1, by omega⟩
          refine pr_eats O hb hR (Or.inl (by omega)) (fun x m1 f1 p1 => zb1 (g3 d hd _ m1 p1 (fun m2 f2 p2 => ?_))) (fun x => absurd g x)
          have hD := prX_D p2 g1.1
          exact pr_codesD hD (lpD_Both hD (hΨ m2 (prF_t f1 f2) p2) k (by omega))
    · refine ⟨.inl (b, []), ⟨by omega, hb, by simp, fun ts _ => rfl⟩, fun d hd Φ m i k hi hk hC hΦ => ?_, fun d hd Ψ m k hk hR hΨ => ?_⟩
      · obtain ⟨k, rfl⟩ : ∃ k', k = k' + 1 := ⟨k - 1, by omega⟩
        have e := hΦ m pcF_r (by rw [List.append_nil]; exact hC)
        refine ⟨⟨by omega, by omega⟩, by rw [hC.2.1]; exact ⟨by omega, by omega⟩, fun _ => e, fun _ => ⟨pc_r7 hC, fun _ => e, fun x => absurd ((pc_is hC (Or.inl (by omega)) (by decide)).mp x) g⟩⟩
      · obtain ⟨k, rfl⟩ : ∃ k', k = k' + 1 := ⟨k - 1, by omega⟩
        exact pr_eats O hb hR (Or.inl (by omega)) (fun x => absurd x g) (fun _ => zb0 (hΨ m prF_r (by rw [List.append_nil]; exact hR)))
theorem pn_Both (O : tpOK f T n) {v D : Nat} (hP : zPN f T n 2 2 6 D true v) : zPN f T n 1 1 (6 + 1) (D + 1) true v := by
  have hf := O.1
  have hn := O.2.2
  intro b c hb hc
  obtain ⟨r1, g1, g2, g3⟩ := hP b c hb hc
  rcases r1 with ⟨b1, e1⟩ | ⟨k1, a1⟩
  · obtain ⟨q1, q2, q3, q4⟩ := g1
    obtain ⟨r2, l1, l2, l3⟩ := lp_Both O hP (n - b1) b1 (c ++ e1) (by omega) q2 (by simp only [List.length_append]; omega)
    refine ⟨zpre e1 r2, ?_, fun d hd Φ m hC hΦ => ?_, fun d hd Ψ m hR hΨ => ?_⟩
    · rcases r2 with ⟨b3, e3⟩ | ⟨k3, a3⟩
      · obtain ⟨p1, p2, p3, p4⟩ := l1
        refine ⟨by omega, p2, by simp only [List.length_append]; omega, fun ts hts => ?_⟩
        rw [zts_app (q4 ts (by omega))]
        exact p4 ts (by omega)
      · exact l1
    · obtain ⟨d, rfl⟩ : ∃ d', d = d' + 1 := ⟨d - 1, by omega⟩
      exact rG7_1 (g2 d (by omega) _ m hC (fun m1 f1 p1 => zc1 (l2 d (by omega) Φ m1 0 f (by omega) (by omega) p1 (cnC_pre f1 hΦ))))
    · obtain ⟨d, rfl⟩ : ∃ d', d = d' + 1 := ⟨d - 1, by omega⟩
      exact rG8_1 (g3 d (by omega) _ m hR (fun m1 f1 p1 => l3 d (by omega) Ψ m1 f (by omega) p1 (cnR_pre f1 hΨ)))
  · refine ⟨.inr (k1, a1), g1, fun d hd Φ m hC hΦ => ?_, fun d hd Ψ m hR hΨ => ?_⟩
    · obtain ⟨d, rfl⟩ : ∃ d', d = d' + 1 := ⟨d - 1, by omega⟩
      exact rG7_1 (g2 d (by omega) _ m hC (fun m1 f1 p1 => zc0 (hΦ m1 f1 p1)))
    · obtain ⟨d, rfl⟩ : ∃ d', d = d' + 1 := ⟨d - 1, by omega⟩
      exact rG8_1 (g3 d (by omega) _ m hR (fun m1 f1 p1 => lpD_Both (prX_D p1 g1.1) (hΨ m1 f1 p1) f (by omega)))
theorem lpD_Term {Ψ : aj_M → Prop} {R : Nat → (aj_M → Prop) → List Nat → Int → aj_M → Prop} {v : Int} {m : aj_M} (h : prD m) (h0 : Ψ m) : ∀ k, 0 < k → hX12_readTerm_5 f Ψ R k [1] v m
  | 0, x => absurd x (by omega)
  | k + 1, _ => pr_eatsD h (zb0 h0)
theorem lp_Term (O : tpOK f T n) {v D : Nat} (hP : zPN f T n 6 5 2 D false v) : ∀ (w b : Nat) (c : List Int), n - b ≤ w → b ≤ n → c.length ≤ b → ∃ r, gl n b (D + 1) false r ∧ (∀ d, 8 * (6 - v) + 2 ≤ d → ∀ (Φ : Int → aj_M → Prop) (m : aj_M) (i k : Nat), i ≤ b → n - b < k → pcC m T n b c → cnC Φ m T n c r → hX7_readTerm_12 f Φ (rG7 f d) k [0, 0] (v : Int) (i : Int) m) ∧ (∀ d, 8 * (6 - v) + 2 ≤ d → ∀ (Ψ : aj_M → Prop) (m : aj_M) (k : Nat), n - b < k → prR m T n b c → cnR Ψ m T n c r → hX12_readTerm_5 f Ψ (rG8 f d) k [1] (v : Int) m) := by
  have hf := O.1
  have hn := O.2.2
  intro w
  induction w with
  | zero =>
    intro b c hw hb hc
    have g : tkK T n b ≠ 34 := fun x => by
      have := tk_more (T := T) hb (by omega)
      have := tkA_b (T := T) hb
      omega
    refine ⟨.inl (b, []), ⟨by omega, hb, by simp, fun ts _ => rfl⟩, fun d hd Φ m i k hi hk hC hΦ => ?_, fun d hd Ψ m k hk hR hΨ => ?_⟩
    · obtain ⟨k, rfl⟩ : ∃ k', k = k' + 1 := ⟨k - 1, by omega⟩
      have e := hΦ m pcF_r (by rw [List.append_nil]; exact hC)
      refine ⟨⟨by omega, by omega⟩, by rw [hC.2.1]; exact ⟨by omega, by omega⟩, fun _ => e, fun _ => ⟨pc_r7 hC, fun _ => e, fun x => absurd ((pc_is hC (Or.inr (by omega)) (by decide)).mp x) g⟩⟩
    · obtain ⟨k, rfl⟩ : ∃ k', k = k' + 1 := ⟨k - 1, by omega⟩
      exact pr_eats O hb hR (Or.inr (by omega)) (fun x => absurd x g) (fun _ => zb0 (hΨ m prF_r (by rw [List.append_nil]; exact hR)))
  | succ w ih =>
    intro b c hw hb hc
    have hA := tkA_b (T := T) hb
    by_cases g : tkK T n b = 34
    · obtain ⟨hE1, hE2⟩ := tk_more (T := T) hb (by omega)
      have hE := tkE_b (T := T) hb
      obtain ⟨r1, g1, g2, g3⟩ := hP (tkE T n b) c hE.2 (by omega)
      have iC : ∀ {m : aj_M}, pcC m T n b c → m [0, 0] 7 = 42 := fun hC => (pc_is hC (Or.inr (by omega)) (by decide)).mpr g
      rcases r1 with ⟨b2, e1⟩ | ⟨k1, a1⟩
      · obtain ⟨q1, q2, q3, q4⟩ := g1
        obtain ⟨r2, l1, l2, l3⟩ := ih b2 (c ++ (e1 ++ [3002])) (by omega) q2 (by simp only [List.length_append, List.length_singleton]; omega)
        refine ⟨zpre (e1 ++ [3002]) r2, ?_, fun d hd Φ m i k hi hk hC hΦ => ?_, fun d hd Ψ m k hk hR hΨ => ?_⟩
        · rcases r2 with ⟨b3, e3⟩ | ⟨k3, a3⟩
          · obtain ⟨p1, p2, p3, p4⟩ := l1
            refine ⟨by omega, p2, by simp only [List.length_append, List.length_singleton]; omega, fun ts hts => ?_⟩
            have t1 := q4 (false :: ts) (by simp only [List.length_cons]; omega)
            have t2 : zts [3002] (false :: false :: ts) = some (false :: ts) := zts_1 rfl (by simp only [List.length_cons]; omega)
            rw [zts_app ((zts_app t1).trans t2)]
            exact p4 ts hts
          · exact l1
        · obtain ⟨k, rfl⟩ : ∃ k', k = k' + 1 := ⟨k - 1, by omega⟩
          refine ⟨⟨by omega, by omega⟩, by rw [hC.2.1]; exact ⟨by omega, by omega⟩, fun x => by rw [hC.2.1] at x; omega, fun _ => ⟨pc_r7 hC, fun x => absurd (iC hC) x, fun _ => pc_step O hb hC (fun m1 f1 p1 => g2 d hd _ m1 p1 (fun m2 f2 p2 => zc1 ?_))⟩⟩
          refine pc_add (cd := 3002) (by simp only [List.length_append]; omega) (by decide) p2 (fun m3 f3 p3 => ?_)
          rw [List.append_assoc] at p3
          exact l2 d hd Φ m3 (i + 1) k (by omega) (by omega) p3 (cnC_pre (pcF_t f1 (pcF_t f2 f3)) hΦ)
        · obtain ⟨k, rfl⟩ : ∃ k', k = k' + 1 := ⟨k - 1, by omega⟩
          refine pr_eats O hb hR (Or.inr (by omega)) (fun x m1 f1 p1 => zb1 (g3 d hd _ m1 p1 (fun m2 f2 p2 => ?_))) (fun x => absurd g x)
          refine pr_codes (by simp only [List.length_append]; omega) p2 (fun m3 f3 p3 => ?_)
          rw [List.append_assoc] at p3
          exact l3 d hd Ψ m3 k (by omega) p3 (cnR_pre (prF_t f1 (prF_t f2 f3)) hΨ)
      · refine ⟨.inr (k1, a1), g1, fun d hd Φ m i k hi hk hC hΦ => ?_, fun d hd Ψ m k hk hR hΨ => ?_⟩
        · obtain ⟨k, rfl⟩ : ∃ k', k = k' + 1 := ⟨k - 1, by omega⟩
          exact ⟨⟨by omega, by omega⟩, by rw [hC.2.1]; exact ⟨by omega, by omega⟩, fun x => by rw [hC.2.1] at x; omega, fun _ => ⟨pc_r7 hC, fun x => absurd (iC hC) x, fun _ => pc_step O hb hC (fun m1 f1 p1 => g2 d hd _ m1 p1 (fun m2 f2 p2 => zc0 (hΦ m2 (pcF_t f1 f2) p2)))⟩⟩
        · obtain ⟨k, rfl⟩ : ∃ k', k = k' + 1 := ⟨k - 1, by omega⟩
          refine pr_eats O hb hR (Or.inr (by omega)) (fun x m1 f1 p1 => zb1 (g3 d hd _ m1 p1 (fun m2 f2 p2 => ?_))) (fun x => absurd g x)
          have hD := prX_D p2 g1.1
          exact pr_codesD hD (lpD_Term hD (hΨ m2 (prF_t f1 f2) p2) k (by omega))
    · refine ⟨.inl (b, []), ⟨by omega, hb, by simp, fun ts _ => rfl⟩, fun d hd Φ m i k hi hk hC hΦ => ?_, fun d hd Ψ m k hk hR hΨ => ?_⟩
      · obtain ⟨k, rfl⟩ : ∃ k', k = k' + 1 := ⟨k - 1, by omega⟩
        have e := hΦ m pcF_r (by rw [List.append_nil]; exact hC)
        refine ⟨⟨by omega, by omega⟩, by rw [hC.2.1]; exact ⟨by omega, by omega⟩, fun _ => e, fun _ => ⟨pc_r7 hC, fun _ => e, fun x => absurd ((pc_is hC (Or.inr (by omega)) (by decide)).mp x) g⟩⟩
      · obtain ⟨k, rfl⟩ : ∃ k', k = k' + 1 := ⟨k - 1, by omega⟩
        exact pr_eats O hb hR (Or.inr (by omega)) (fun x => absurd x g) (fun _ => zb0 (hΨ m prF_r (by rw [List.append_nil]; exact hR)))
theorem pn_Term (O : tpOK f T n) {v D : Nat} (hP : zPN f T n 6 5 2 D false v) : zPN f T n 5 4 (2 + 1) (D + 1) false v := by
  have hf := O.1
  have hn := O.2.2
  intro b c hb hc
  obtain ⟨r1, g1, g2, g3⟩ := hP b c hb hc
  rcases r1 with ⟨b1, e1⟩ | ⟨k1, a1⟩
  · obtain ⟨q1, q2, q3, q4⟩ := g1
    obtain ⟨r2, l1, l2, l3⟩ := lp_Term O hP (n - b1) b1 (c ++ e1) (by omega) q2 (by simp only [List.length_append]; omega)
    refine ⟨zpre e1 r2, ?_, fun d hd Φ m hC hΦ => ?_, fun d hd Ψ m hR hΨ => ?_⟩
    · rcases r2 with ⟨b3, e3⟩ | ⟨k3, a3⟩
      · obtain ⟨p1, p2, p3, p4⟩ := l1
        refine ⟨by omega, p2, by simp only [List.length_append]; omega, fun ts hts => ?_⟩
        rw [zts_app (q4 ts (by omega))]
        exact p4 ts (by omega)
      · exact l1
    · obtain ⟨d, rfl⟩ : ∃ d', d = d' + 1 := ⟨d - 1, by omega⟩
      exact rG7_5 (g2 d (by omega) _ m hC (fun m1 f1 p1 => zc1 (l2 d (by omega) Φ m1 0 f (by omega) (by omega) p1 (cnC_pre f1 hΦ))))
    · obtain ⟨d, rfl⟩ : ∃ d', d = d' + 1 := ⟨d - 1, by omega⟩
      exact rG8_4 (g3 d (by omega) _ m hR (fun m1 f1 p1 => l3 d (by omega) Ψ m1 f (by omega) p1 (cnR_pre f1 hΨ)))
  · refine ⟨.inr (k1, a1), g1, fun d hd Φ m hC hΦ => ?_, fun d hd Ψ m hR hΨ => ?_⟩
    · obtain ⟨d, rfl⟩ : ∃ d', d = d' + 1 := ⟨d - 1, by omega⟩
      exact rG7_5 (g2 d (by omega) _ m hC (fun m1 f1 p1 => zc0 (hΦ m1 f1 p1)))
    · obtain ⟨d, rfl⟩ : ∃ d', d = d' + 1 := ⟨d - 1, by omega⟩
      exact rG8_4 (g3 d (by omega) _ m hR (fun m1 f1 p1 => lpD_Term (prX_D p1 g1.1) (hΨ m1 f1 p1) f (by omega)))
end RLS
