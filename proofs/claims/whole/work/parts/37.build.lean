/-! THE CLASS LIFTS THE NETWORK -/
def nT (m : aj_M) (q : List Nat) (g0 g2 g3 g4 g5 : Nat → Int) : aj_M := aj_ur (aj_ur (aj_ur (aj_ur (aj_ur m q g0) (2 :: q) g2) (3 :: q) g3) (4 :: q) g4) (5 :: q) g5
theorem nT_off {m : aj_M} {q r : List Nat} {g0 g2 g3 g4 g5 : Nat → Int} (h0 : r ≠ q) (h2 : r ≠ 2 :: q) (h3 : r ≠ 3 :: q) (h4 : r ≠ 4 :: q) (h5 : r ≠ 5 :: q) : nT m q g0 g2 g3 g4 g5 r = m r := by simp [nT, zr_ur, h0, h2, h3, h4, h5]
theorem nT_r {m : aj_M} {q : List Nat} {g0 g2 g3 g4 g5 : Nat → Int} : nT m q g0 g2 g3 g4 g5 q = g0 ∧ nT m q g0 g2 g3 g4 g5 (2 :: q) = g2 ∧ nT m q g0 g2 g3 g4 g5 (3 :: q) = g3 ∧ nT m q g0 g2 g3 g4 g5 (4 :: q) = g4 ∧ nT m q g0 g2 g3 g4 g5 (5 :: q) = g5 := by simp [nT, zr_ur]
theorem nT_w0 {m : aj_M} {q : List Nat} {g0 g2 g3 g4 g5 : Nat → Int} {j : Nat} {x : Int} : aj_u (nT m q g0 g2 g3 g4 g5) q j x = nT m q (st g0 j x) g2 g3 g4 g5 := by simp [nT, zu_push]
theorem nT_w2 {m : aj_M} {q : List Nat} {g0 g2 g3 g4 g5 : Nat → Int} {j : Nat} {x : Int} : aj_u (nT m q g0 g2 g3 g4 g5) (2 :: q) j x = nT m q g0 (st g2 j x) g3 g4 g5 := by simp [nT, zu_push]
theorem nT_w3 {m : aj_M} {q : List Nat} {g0 g2 g3 g4 g5 : Nat → Int} {j : Nat} {x : Int} : aj_u (nT m q g0 g2 g3 g4 g5) (3 :: q) j x = nT m q g0 g2 (st g3 j x) g4 g5 := by simp [nT, zu_push]
theorem nT_w4 {m : aj_M} {q : List Nat} {g0 g2 g3 g4 g5 : Nat → Int} {j : Nat} {x : Int} : aj_u (nT m q g0 g2 g3 g4 g5) (4 :: q) j x = nT m q g0 g2 g3 (st g4 j x) g5 := by simp [nT, zu_push]
theorem nT_w5 {m : aj_M} {q : List Nat} {g0 g2 g3 g4 g5 : Nat → Int} {j : Nat} {x : Int} : aj_u (nT m q g0 g2 g3 g4 g5) (5 :: q) j x = nT m q g0 g2 g3 g4 (st g5 j x) := by simp [nT, zu_push]
theorem nT_self {m : aj_M} {q : List Nat} : nT m q (m q) (m (2 :: q)) (m (3 :: q)) (m (4 :: q)) (m (5 :: q)) = m := by
  unfold nT
  rw [zm_ur_id (p := 5 :: q) (fun k => by simp [zr_ur]), zm_ur_id (p := 4 :: q) (fun k => by simp [zr_ur]), zm_ur_id (p := 3 :: q) (fun k => by simp [zr_ur]), zm_ur_id (p := 2 :: q) (fun k => by simp [zr_ur]), zm_ur_self]
theorem pX5_has {f : Nat} {Φ : Int → aj_M → Prop} {q : List Nat} {m : aj_M} {N v : Int} (hv : rI v) (hN : m q 0 = N) (hN2 : 0 ≤ N ∧ N ≤ 60) (h1 : 0 ≤ v → v < N → Φ 1 m) (h0 : ¬ (0 ≤ v ∧ v < N) → Φ 0 m) : wX5_has f Φ q v m := by
  unfold wX5_has
  rw [hN]
  exact ⟨hv, fun c => h0 (by omega), fun c => ⟨hv, ⟨by omega, by omega⟩, fun c2 => h0 (by omega), fun c2 => h1 (by omega) (by omega)⟩⟩
theorem pX5_addLink {f : Nat} {Φ : aj_M → Prop} {q : List Nat} {m : aj_M} {g0 g2 g3 g4 g5 : Nat → Int} {N u v n : Nat} {a x : Int} (h0 : g0 0 = N) (h1 : g0 1 = n) (hN : N ≤ 60) (hn : n < 144) (hu : u < N) (hv : v < N) (hK : Φ (nT m q (st g0 1 ((n : Int) + 1)) (st g2 n u) (st g3 n v) (st g4 n a) (st g5 n x))) : wX5_addLink f Φ q u v a x (nT m q g0 g2 g3 g4 g5) := by
  unfold wX5_addLink
  simp only [nT_r, h1]
  refine ⟨⟨by omega, by omega⟩, fun c => by omega, fun _ => ?_⟩
  refine pX5_has ⟨by omega, by omega⟩ (N := N) (by rw [nT_r.1, h0]) (by omega) (fun _ _ => zb1 ?_) (fun c => absurd ⟨by omega, by omega⟩ c)
  refine pX5_has ⟨by omega, by omega⟩ (N := N) (by rw [nT_r.1, h0]) (by omega) (fun _ _ => zc1 ?_) (fun c => absurd ⟨by omega, by omega⟩ c)
  simp only [nT_r, h1, Int.toNat_natCast]
  refine ⟨⟨by omega, by omega⟩, ?_⟩
  rintro _ rfl
  simp only [nT_w2, nT_r, h1, Int.toNat_natCast]
  refine ⟨⟨by omega, by omega⟩, ?_⟩
  rintro _ rfl
  simp only [nT_w3, nT_r, h1, Int.toNat_natCast]
  refine ⟨⟨by omega, by omega⟩, ?_⟩
  rintro _ rfl
  simp only [nT_w4, nT_r, h1, Int.toNat_natCast]
  refine ⟨⟨by omega, by omega⟩, ?_⟩
  rintro _ rfl
  simp only [nT_w5, nT_r, h1]
  rintro _ rfl
  rw [nT_w0]
  exact hK
/-- where the networks and the settings lie -/
def zqn (q : List Nat) : Prop := q = [3, 8, 0] ∨ q = [9, 0]
def zqs (s : List Nat) : Prop := s = [2, 0] ∨ s = [4, 0]
theorem zqn_off {m : aj_M} {q r : List Nat} {g0 g2 g3 g4 g5 : Nat → Int} (hq : zqn q) (h : r ∉ ([[3, 8, 0], [2, 3, 8, 0], [3, 3, 8, 0], [4, 3, 8, 0], [5, 3, 8, 0], [9, 0], [2, 9, 0], [3, 9, 0], [4, 9, 0], [5, 9, 0]] : List (List Nat))) : nT m q g0 g2 g3 g4 g5 r = m r := by
  simp only [List.mem_cons, List.not_mem_nil, or_false, not_or] at h
  rcases hq with rfl | rfl
  · exact nT_off h.1 h.2.1 h.2.2.1 h.2.2.2.1 h.2.2.2.2.1
  · exact nT_off h.2.2.2.2.2.1 h.2.2.2.2.2.2.1 h.2.2.2.2.2.2.2.1 h.2.2.2.2.2.2.2.2.1 h.2.2.2.2.2.2.2.2.2
theorem zRw_0 {g2 g3 : Nat → Int} : zRw [] g2 g3 := fun i z h => by simp at h
theorem zRw2_0 {g2 g3 : Nat → Int} : zRw2 [] g2 g3 := fun i z h => by simp at h
theorem pX9_isOut {f : Nat} {Φ : Int → aj_M → Prop} {s : List Nat} {m : aj_M} {C ar : Nat} (hC : m s 1 = C) (hC2 : C < 4096) (har : ar < 12) (h1 : C.testBit ar = true → Φ 1 m) (h0 : C.testBit ar = false → Φ 0 m) : wX9_isOut f Φ s ar m := by
  unfold wX9_isOut
  rw [hC, zi_bit (by omega) (by omega)]
  by_cases hb : C.testBit ar = true
  · simp only [hb, if_true]
    exact ⟨by decide, fun c => absurd trivial c, fun _ => h1 hb⟩
  · have hb' : C.testBit ar = false := by simpa using hb
    simp only [hb']
    exact ⟨by decide, fun _ => h0 hb', fun c => absurd c (by decide)⟩
theorem pX5_build {f : Nat} {Φ : aj_M → Prop} {q s : List Nat} {m : aj_M} {A : Nat → Int} (hq : zqn q) (hs : zqs s) (hA : wA A) (hP : wP m [1, 0] A) (hKp : wK m [1, 0] A) (hS : wS m s A) (hf : 1000 ≤ f)
    (hK : ∀ (m' : aj_M) (st' en : Nat → Nat), nC m' q (zNn A) (zLk A).length (zFa A) (zFb A) st' en → zRw2 (zLk A) (m' (4 :: q)) (m' (5 :: q)) → (∀ r, r ∉ ([[1, 0], [11, 1, 0], [6, 1, 1, 0], q, 2 :: q, 3 :: q, 4 :: q, 5 :: q, 8 :: q, 9 :: q] : List (List Nat)) → m' r = m r) → (∀ j, j ≠ 10 → m' [1, 0] j = m [1, 0] j) → (∀ j, j ≠ 0 → j ≠ 1 → j ≠ 7 → m' q j = m q j) → m' q 7 = 0 → wP m' [1, 0] A → wK m' [1, 0] A → Φ m') : wX5_build f Φ q [1, 0] s m := by
  have h12 := hA.2.2.1
  have h4 := gOK_n hA.1
  have hNn := zNn_b hA
  have ht := hA.2.2.2.2.2.1
  obtain ⟨C, hC, hC2⟩ := hA.2.2.2.2.1
  unfold wX5_build
  have e5 : m [1, 0] 3 = A 5 := hP.2.1
  have e4 : m (0 :: [1, 0]) 0 = A 4 := hP.1.1
  rw [e5, e4, hNn.1]
  rintro _ rfl
  rintro _ rfl
  rintro _ rfl
  have e0 : aj_u (aj_u (aj_u m q 0 (zNn A : Int)) q 1 0) q 7 0 = nT m q (st (st (st (m q) 0 (zNn A : Int)) 1 0) 7 0) (m (2 :: q)) (m (3 :: q)) (m (4 :: q)) (m (5 :: q)) := by
    have := congrArg (fun m' => aj_u (aj_u (aj_u m' q 0 (zNn A : Int)) q 1 0) q 7 0) (nT_self (m := m) (q := q)).symm
    simp only [nT_w0] at this
    exact this
  rw [e0]
  generalize hg0 : st (st (st (m q) 0 (zNn A : Int)) 1 0) 7 0 = g0
  have g00 : g0 0 = (zNn A : Int) := by rw [← hg0, st_ne (by decide), st_ne (by decide), st_at]
  have g01 : g0 1 = 0 := by rw [← hg0, st_ne (by decide), st_at]
  have g07 : g0 7 = 0 := by rw [← hg0, st_at]
  have g0r : ∀ j, j ≠ 0 → j ≠ 1 → j ≠ 7 → g0 j = m q j := fun j h1 h2 h3 => by rw [← hg0, st_ne h3, st_ne h2, st_ne h1]
  have offs : ∀ (g0 g2 g3 g4 g5 : Nat → Int) (r : List Nat), r ∈ ([[1, 0], [0, 1, 0], [1, 0, 1, 0], [2, 0, 1, 0], [3, 0, 1, 0], [1, 1, 0], [0, 1, 1, 0], [7, 1, 0], [8, 1, 0], [11, 1, 0], [2, 0], [4, 0], [0, 2, 0], [0, 4, 0], [6, 1, 1, 0]] : List (List Nat)) → nT m q g0 g2 g3 g4 g5 r = m r := by
    intro g0 g2 g3 g4 g5 r hr
    refine zqn_off hq (fun h => ?_)
    simp only [List.mem_cons, List.not_mem_nil, or_false] at hr h
    rcases hr with rfl | rfl | rfl | rfl | rfl | rfl | rfl | rfl | rfl | rfl | rfl | rfl | rfl | rfl | rfl <;> revert h <;> decide
  have hsm : s ∈ ([[2, 0], [4, 0]] : List (List Nat)) := by rcases hs with rfl | rfl <;> decide
  have offS : ∀ (g0 g2 g3 g4 g5 : Nat → Int), nT m q g0 g2 g3 g4 g5 s = m s ∧ nT m q g0 g2 g3 g4 g5 (0 :: s) = m (0 :: s) := by
    intro g0 g2 g3 g4 g5
    rcases hs with rfl | rfl <;> exact ⟨offs _ _ _ _ _ _ (by decide), offs _ _ _ _ _ _ (by decide)⟩
  rw [(offS _ _ _ _ _).1, hS.2.2]
  have hP1 : ∀ g0 g2 g3 g4 g5, wP (nT m q g0 g2 g3 g4 g5) [1, 0] A := fun g0 g2 g3 g4 g5 => wP_of hP (fun j _ => by rw [offs _ _ _ _ _ _ (by decide)]) (offs _ _ _ _ _ _ (by decide)) (offs _ _ _ _ _ _ (by decide)) (offs _ _ _ _ _ _ (by decide)) (offs _ _ _ _ _ _ (by decide)) (offs _ _ _ _ _ _ (by decide)) (offs _ _ _ _ _ _ (by decide)) (offs _ _ _ _ _ _ (by decide)) (offs _ _ _ _ _ _ (by decide))
  have hK1 : ∀ g0 g2 g3 g4 g5, wK (nT m q g0 g2 g3 g4 g5) [1, 0] A := fun g0 g2 g3 g4 g5 => by
    unfold wK
    rw [offs _ _ _ _ _ [1, 0] (by decide), offs _ _ _ _ _ [11, 1, 0] (by decide)]
    exact hKp
  refine pX6_knowKept hA (hP1 _ _ _ _ _) (hK1 _ _ _ _ _) ht hf ?_
  intro gp g11 S gp1 gp2 gp3
  -- the same with the nets' rows outside
  have hsw : ∀ (g0 g2 g3 g4 g5 : Nat → Int), kT (nT m q g0 g2 g3 g4 g5) [1, 0] gp g11 S = nT (kT m [1, 0] gp g11 S) q g0 g2 g3 g4 g5 := by
    intro g0 g2 g3 g4 g5
    funext r k
    have hc : ∀ r : List Nat, r ∈ ([[1, 0], [11, 1, 0], [6, 1, 1, 0]] : List (List Nat)) → r ≠ q ∧ r ≠ 2 :: q ∧ r ≠ 3 :: q ∧ r ≠ 4 :: q ∧ r ≠ 5 :: q := by
      intro r hr
      simp only [List.mem_cons, List.not_mem_nil, or_false] at hr
      rcases hq with rfl | rfl <;> rcases hr with rfl | rfl | rfl <;> decide
    by_cases h1 : r ∈ ([[1, 0], [11, 1, 0], [6, 1, 1, 0]] : List (List Nat))
    · have h2 := hc r h1
      rw [nT_off h2.1 h2.2.1 h2.2.2.1 h2.2.2.2.1 h2.2.2.2.2]
      simp only [List.mem_cons, List.not_mem_nil, or_false] at h1
      rcases h1 with rfl | rfl | rfl <;> simp [kT, zr_ur]
    · simp only [List.mem_cons, List.not_mem_nil, or_false, not_or] at h1
      rw [kT_off h1.1 h1.2.1 h1.2.2]
      simp only [nT, zr_ur]
      rw [kT_off h1.1 h1.2.1 h1.2.2]
  have gp1' : ∀ j, j ≠ 10 → gp j = m [1, 0] j := fun j hj => by rw [gp1 j hj, offs _ _ _ _ _ _ (by decide)]
  rw [hsw]
  generalize hM : kT m [1, 0] gp g11 S = M
  have rM : ∀ r, r ∉ ([[1, 0], [11, 1, 0], [6, 1, 1, 0]] : List (List Nat)) → M r = m r := fun r hr => by
    simp only [List.mem_cons, List.not_mem_nil, or_false, not_or] at hr
    rw [← hM]; exact kT_off hr.1 hr.2.1 hr.2.2
  have hPM : wP M [1, 0] A := by rw [← hM]; exact kT_wP hP gp1'
  have hM10 : M [1, 0] 10 = A 62 := by rw [← hM, kT_p, gp2]
  have hM11 : M [11, 1, 0] = g11 := by rw [← hM]; exact kT_11
  have hKM : wK M [1, 0] A := Or.inr ⟨by omega, by omega, fun ar har => by rw [hM11, hM10]; exact gp3 ar har⟩
  have offM : ∀ (g0 g2 g3 g4 g5 : Nat → Int) (r : List Nat), r ∈ ([[1, 0], [0, 1, 0], [1, 0, 1, 0], [2, 0, 1, 0], [3, 0, 1, 0], [1, 1, 0], [0, 1, 1, 0], [7, 1, 0], [8, 1, 0], [11, 1, 0], [2, 0], [4, 0], [0, 2, 0], [0, 4, 0], [6, 1, 1, 0]] : List (List Nat)) → nT M q g0 g2 g3 g4 g5 r = M r := by
    intro g0 g2 g3 g4 g5 r hr
    refine zqn_off hq (fun h => ?_)
    simp only [List.mem_cons, List.not_mem_nil, or_false] at hr h
    rcases hr with rfl | rfl | rfl | rfl | rfl | rfl | rfl | rfl | rfl | rfl | rfl | rfl | rfl | rfl | rfl <;> revert h <;> decide
  have offSM : ∀ (g0 g2 g3 g4 g5 : Nat → Int), nT M q g0 g2 g3 g4 g5 s = m s ∧ nT M q g0 g2 g3 g4 g5 (0 :: s) = m (0 :: s) := by
    intro g0 g2 g3 g4 g5
    rcases hs with rfl | rfl <;> exact ⟨by rw [offM _ _ _ _ _ _ (by decide), rM _ (by decide)], by rw [offM _ _ _ _ _ _ (by decide), rM _ (by decide)]⟩
  have hPT : ∀ g0 g2 g3 g4 g5, wP (nT M q g0 g2 g3 g4 g5) [1, 0] A := fun g0 g2 g3 g4 g5 => wP_of hPM (fun j _ => by rw [offM _ _ _ _ _ _ (by decide)]) (offM _ _ _ _ _ _ (by decide)) (offM _ _ _ _ _ _ (by decide)) (offM _ _ _ _ _ _ (by decide)) (offM _ _ _ _ _ _ (by decide)) (offM _ _ _ _ _ _ (by decide)) (offM _ _ _ _ _ _ (by decide)) (offM _ _ _ _ _ _ (by decide)) (offM _ _ _ _ _ _ (by decide))
  -- the loop over arcs
  have g0I : ∀ (l : List (Nat × Nat × Nat × Nat)) (G0 : Nat → Int), (G0 0 = (zNn A : Int) ∧ G0 1 = (l.length : Nat) ∧ G0 7 = 0 ∧ ∀ j, j ≠ 0 → j ≠ 1 → j ≠ 7 → G0 j = m q j) → ∀ z, (st G0 1 (((l ++ [z]).length : Nat) : Int)) 0 = (zNn A : Int) ∧ (st G0 1 (((l ++ [z]).length : Nat) : Int)) 1 = ((l ++ [z]).length : Nat) ∧ (st G0 1 (((l ++ [z]).length : Nat) : Int)) 7 = 0 ∧ ∀ j, j ≠ 0 → j ≠ 1 → j ≠ 7 → (st G0 1 (((l ++ [z]).length : Nat) : Int)) j = m q j := by
    intro l G0 h z
    exact ⟨by rw [st_ne (by decide)]; exact h.1, st_at, by rw [st_ne (by decide)]; exact h.2.2.1, fun j h1 h2 h3 => by rw [st_ne h2]; exact h.2.2.2 j h1 h2 h3⟩
  refine zfor (H := fun k i σ => hX5_build_39 f Φ k q [1, 0] s (A 4) i σ) (N := (A 6).toNat) (fun i σ => ∃ G0 g2 g3 g4 g5 : Nat → Int, σ = nT M q G0 g2 g3 g4 g5 ∧ (G0 0 = (zNn A : Int) ∧ G0 1 = ((zLs A i).length : Nat) ∧ G0 7 = 0 ∧ ∀ j, j ≠ 0 → j ≠ 1 → j ≠ 7 → G0 j = m q j) ∧ zRw (zLs A i) g2 g3 ∧ zRw2 (zLs A i) g4 g5) ?_ f 0 _ (by omega) (by omega) ⟨_, _, _, _, _, rfl, ⟨g00, g01, g07, g0r⟩, zRw_0, zRw2_0⟩
  rintro k i σ hi ⟨G0, g2, g3, g4, g5, rfl, hG0, hR, hR2⟩ hnext
  unfold hX5_build_39
  have e6 : nT M q G0 g2 g3 g4 g5 [1, 0] 4 = A 6 := (hPT _ _ _ _ _).2.2.1
  rw [e6]
  refine ⟨⟨by omega, by omega⟩, ⟨by omega, by omega⟩, fun c => ?_, fun c => ?_⟩
  · have ei : i = (A 6).toNat := by omega
    subst ei
    have hlk : zLs A (A 6).toNat = zLk A := rfl
    rw [hlk] at hR hR2 hG0
    have hlen := zLk_len hA
    refine pX5_sortEnds (N := zNn A) (L := (zLk A).length) (a := zFa A) (b := zFb A) (by rw [nT_r.1]; exact hG0.1) (by rw [nT_r.1]; exact hG0.2.1) hNn.2.1 hNn.2.2 hlen (fun l hl => ⟨(zLk_b hA hl).1, (zLk_b hA hl).2.1⟩) (fun l hl => ?_) (by omega) ?_
    · rw [nT_r.2.1, nT_r.2.2.1]
      exact hR l _ (zLk_at hl)
    · intro S' E' st' en hn
      refine hK _ st' en hn ?_ ?_ ?_ ?_ ?_ ?_ ?_
      · rw [nS_off (by simp) (by simp), nS_off (by simp) (by simp), nT_r.2.2.2.1, nT_r.2.2.2.2]; exact hR2
      · intro r hr
        simp only [List.mem_cons, List.not_mem_nil, or_false, not_or] at hr
        rw [nS_off hr.2.2.2.2.2.2.2.2.1 hr.2.2.2.2.2.2.2.2.2, nT_off hr.2.2.2.1 hr.2.2.2.2.1 hr.2.2.2.2.2.1 hr.2.2.2.2.2.2.1 hr.2.2.2.2.2.2.2.1, rM r (by simp only [List.mem_cons, List.not_mem_nil, or_false, not_or]; exact ⟨hr.1, hr.2.1, hr.2.2.1⟩)]
      · intro j hj
        have n8 : ([1, 0] : List Nat) ≠ 8 :: q := by rcases hq with rfl | rfl <;> decide
        have n9 : ([1, 0] : List Nat) ≠ 9 :: q := by rcases hq with rfl | rfl <;> decide
        rw [nS_off n8 n9, offM _ _ _ _ _ _ (by decide), ← hM, kT_p]
        exact gp1' j hj
      · intro j h1 h2 h3
        rw [nS_r.1, nT_r.1]; exact hG0.2.2.2 j h1 h2 h3
      · rw [nS_r.1, nT_r.1]; exact hG0.2.2.1
      · have nn : ∀ r : List Nat, r ∈ ([[1, 0], [0, 1, 0], [1, 0, 1, 0], [2, 0, 1, 0], [3, 0, 1, 0], [1, 1, 0], [0, 1, 1, 0], [7, 1, 0], [8, 1, 0]] : List (List Nat)) → nS (nT M q G0 g2 g3 g4 g5) q S' E' r = nT M q G0 g2 g3 g4 g5 r := by
          intro r hr
          simp only [List.mem_cons, List.not_mem_nil, or_false] at hr
          refine nS_off ?_ ?_ <;> (rcases hq with rfl | rfl <;> rcases hr with rfl | rfl | rfl | rfl | rfl | rfl | rfl | rfl | rfl <;> decide)
        exact wP_of (hPT G0 g2 g3 g4 g5) (fun j _ => by rw [nn _ (by decide)]) (nn _ (by decide)) (nn _ (by decide)) (nn _ (by decide)) (nn _ (by decide)) (nn _ (by decide)) (nn _ (by decide)) (nn _ (by decide)) (nn _ (by decide))
      · have nn : ∀ r : List Nat, r ∈ ([[1, 0], [11, 1, 0]] : List (List Nat)) → nS (nT M q G0 g2 g3 g4 g5) q S' E' r = M r := by
          intro r hr
          rw [nS_off]
          · simp only [List.mem_cons, List.not_mem_nil, or_false] at hr
            rcases hr with rfl | rfl <;> exact offM _ _ _ _ _ _ (by decide)
          · simp only [List.mem_cons, List.not_mem_nil, or_false] at hr
            rcases hq with rfl | rfl <;> rcases hr with rfl | rfl <;> decide
          · simp only [List.mem_cons, List.not_mem_nil, or_false] at hr
            rcases hq with rfl | rfl <;> rcases hr with rfl | rfl <;> decide
        unfold wK
        rw [nn _ (by decide), nn [11, 1, 0] (by decide)]
        exact hKM
  · have hi6 : (i : Int) < A 6 := by omega
    have harc := hA.2.2.2.1 i hi6
    have hCs : nT M q G0 g2 g3 g4 g5 s 1 = C := by rw [(offSM _ _ _ _ _).1, hS.2.1, hC]
    have eC : (A 61).toNat = C := by omega
    refine pX9_isOut hCs hC2 (by omega) (fun hb => zc1' ?_) (fun hb => zb0' ?_)
    · refine hnext (by omega) _ ⟨G0, g2, g3, g4, g5, rfl, ?_, ?_, ?_⟩ <;> (unfold zLs; rw [eC, hb, if_pos rfl, List.append_nil]; assumption)
    · -- the members
      have inner : ∀ (half : Int), (half = 1 ∧ A (37 + i) = 1) ∨ (half = 0 ∧ A (37 + i) ≠ 1) → hX5_build_71 f Φ (fun q0 q1 q2 v3 v4 m => hX5_build_39 f Φ k q0 q1 q2 v3 v4 m) f q [1, 0] s (A 4) i half 0 (nT M q G0 g2 g3 g4 g5) := by
        intro half hhalf
        refine zfor (H := fun kk x σ => hX5_build_71 f Φ (fun q0 q1 q2 v3 v4 m => hX5_build_39 f Φ k q0 q1 q2 v3 v4 m) kk q [1, 0] s (A 4) i half x σ) (N := (A 4).toNat) (fun x σ => ∃ G0 g2 g3 g4 g5 : Nat → Int, σ = nT M q G0 g2 g3 g4 g5 ∧ (G0 0 = (zNn A : Int) ∧ G0 1 = ((zLs A i ++ zLx A i x).length : Nat) ∧ G0 7 = 0 ∧ ∀ j, j ≠ 0 → j ≠ 1 → j ≠ 7 → G0 j = m q j) ∧ zRw (zLs A i ++ zLx A i x) g2 g3 ∧ zRw2 (zLs A i ++ zLx A i x) g4 g5) ?_ f 0 _ (by omega) (by omega) ⟨G0, g2, g3, g4, g5, rfl, by simpa [zLx] using hG0, by simpa [zLx] using hR, by simpa [zLx] using hR2⟩
        rintro kk x σ hx ⟨G0, g2, g3, g4, g5, rfl, hG0, hR, hR2⟩ hstep
        unfold hX5_build_71
        refine ⟨⟨by omega, by omega⟩, ⟨by omega, by omega⟩, fun c1 => ?_, fun c1 => ⟨⟨by omega, by omega⟩, ?_⟩⟩
        · have ex : x = (A 4).toNat := by omega
          subst ex
          refine hnext (by omega) _ ⟨G0, g2, g3, g4, g5, rfl, ?_, ?_, ?_⟩ <;> (unfold zLs; rw [eC, hb, if_neg (by decide)]; assumption)
        · have hv : nT M q G0 g2 g3 g4 g5 (0 :: s) (i : Int).toNat = A (49 + i) := by rw [(offSM _ _ _ _ _).2, Int.toNat_natCast]; exact hS.1 i hi6
          rw [hv]
          have gf := g_fact hA.1 (show 0 ≤ (x : Int) by omega) (show (x : Int) < A 4 by omega) harc.2.2.2.1 harc.2.2.2.2
          refine pX0_times (n := A 4) (hPT _ _ _ _ _).1.1 h4.2 (by omega) (by omega) harc.2.2.2.1 harc.2.2.2.2 ((hPT _ _ _ _ _).1.2.1 x _ (by omega) (by omega) harc.2.2.2.1 harc.2.2.2.2) ?_
          rw [offM _ _ _ _ _ (11 :: [1, 0]) (by decide), hM11, Int.toNat_natCast]
          obtain ⟨B, eB, hB2, hBx⟩ := gp3 i hi6
          have hBx := hBx x (by omega)
          rw [eB, zi_bit (by omega) (by omega)]
          have hskip : zLb A i x = false → hX5_build_71 f Φ (fun q0 q1 q2 v3 v4 m => hX5_build_39 f Φ k q0 q1 q2 v3 v4 m) kk q [1, 0] s (A 4) i half ((x : Int) + 1) (nT M q G0 g2 g3 g4 g5) := by
            intro hz
            refine hstep (by omega) _ ⟨G0, g2, g3, g4, g5, rfl, ?_, ?_, ?_⟩ <;> (unfold zLx; rw [hz, if_neg (by decide), List.append_nil]; assumption)
          have hadd : zLb A i x = true → hX5_build_123 f Φ (fun q0 q1 q2 v3 v4 m => hX5_build_39 f Φ k q0 q1 q2 v3 v4 m) (fun q0 q1 q2 v3 v4 v5 v6 m => hX5_build_71 f Φ (fun q0 q1 q2 v3 v4 m => hX5_build_39 f Φ k q0 q1 q2 v3 v4 m) kk q0 q1 q2 v3 v4 v5 v6 m) q [1, 0] s (A 4) i half x (gT (A 1) (A 2) (A 3) x (A (49 + i))) (nT M q G0 g2 g3 g4 g5) := by
            intro hz
            unfold hX5_build_123
            have h78 := (hPT G0 g2 g3 g4 g5).2.2.2.2.2.1 i hi6
            rw [Int.toNat_natCast, h78.1, h78.2]
            have hli := zLi_b hA hi6 (show (x : Int) < A 4 by omega)
            rw [hli.1, hli.2.1]
            have hll : (zLs A i ++ zLx A i x).length < 144 := by
              rw [List.length_append]
              have := zLs_len hA i
              have := zLx_len (A := A) (ar := i) x
              omega
            refine ⟨⟨by omega, by omega⟩, ⟨by omega, by omega⟩, pX5_addLink hG0.1 hG0.2.1 hNn.2.2 hll hli.2.2.1 hli.2.2.2 ?_⟩
            have hx1 : zLx A i (x + 1) = zLx A i x ++ [zLi A i x] := by
              show zLx A i x ++ _ = _
              rw [hz, if_pos rfl]
            refine hstep (by omega) _ ⟨_, _, _, _, _, rfl, ?_, ?_, ?_⟩
            · rw [hx1, ← List.append_assoc]
              have := g0I _ _ hG0 (zLi A i x)
              rw [show (((zLs A i ++ zLx A i x ++ [zLi A i x]).length : Nat) : Int) = (((zLs A i ++ zLx A i x).length : Nat) : Int) + 1 by rw [List.length_append]; simp] at this
              rw [show (((zLs A i ++ zLx A i x ++ [zLi A i x]).length : Nat) : Int) = (((zLs A i ++ zLx A i x).length : Nat) : Int) + 1 by rw [List.length_append]; simp]
              exact this
            · rw [hx1, ← List.append_assoc]
              exact zRw_snoc hR
            · rw [hx1, ← List.append_assoc]
              exact zRw2_snoc (z := zLi A i x) hR2
          by_cases hkp : B.testBit x = true
          · have hkept := hBx.mp hkp
            rw [if_pos hkp]
            refine ⟨⟨by omega, by omega⟩, by decide, fun c => absurd rfl c, fun _ => ⟨⟨by omega, by omega⟩, fun c => hadd ?_, fun c => ⟨⟨by omega, by omega⟩, ⟨by omega, by omega⟩, fun c2 => hskip ?_, fun c2 => hadd ?_⟩⟩⟩
            · have : A (37 + i) ≠ 1 := by
                rcases hhalf with h | h
                · omega
                · exact h.2
              unfold zLb
              exact decide_eq_true ⟨hkept, fun h => absurd h this⟩
            · have : A (37 + i) = 1 := by
                rcases hhalf with h | h
                · exact h.2
                · omega
              unfold zLb
              exact decide_eq_false (fun h => by have := h.2 this; omega)
            · unfold zLb
              exact decide_eq_true ⟨hkept, fun _ => by omega⟩
          · rw [if_neg hkp]
            refine ⟨⟨by omega, by omega⟩, by decide, fun _ => hskip ?_, fun c => absurd c (by decide)⟩
            unfold zLb
            exact decide_eq_false (fun h => hkp (hBx.mpr h.1))
      refine pX6_isHalf hA (hPT _ _ _ _ _) ⟨by omega, by omega⟩ (fun _ _ h => inner 1 (Or.inl ⟨rfl, by rwa [Int.toNat_natCast] at h⟩)) (fun h => inner 0 (Or.inr ⟨rfl, fun h' => h ⟨by omega, hi6, by rwa [Int.toNat_natCast]⟩⟩))
