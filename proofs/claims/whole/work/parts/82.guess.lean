/-! A GUESS: the network of a trial setting, the class -/
def zGl : List (List Nat) := [[1, 0], [4, 0], [0, 4, 0], [11, 1, 0], [6, 1, 1, 0], [9, 0], [2, 9, 0], [3, 9, 0], [4, 9, 0], [5, 9, 0], [8, 9, 0], [9, 9, 0], [10, 9, 0], [12, 9, 0], [13, 9, 0], [14, 9, 0]]
def zGs (m m' : aj_M) (A : Nat → Int) : Prop := zo zGl m m' ∧ (∀ j, j ≠ 10 → m' [1, 0] j = m [1, 0] j) ∧ (∀ j, j ≠ 0 → j ≠ 1 → j ≠ 7 → m' [9, 0] j = m [9, 0] j) ∧ (∀ k, rI (m' [12, 9, 0] k)) ∧ wP m' [1, 0] A ∧ wK m' [1, 0] A
theorem zGs_0 {m : aj_M} {A : Nat → Int} (hP : wP m [1, 0] A) (hK : wK m [1, 0] A) (hv : ∀ k, rI (m [12, 9, 0] k)) : zGs m m A := ⟨fun _ _ => rfl, fun _ _ => rfl, fun _ _ _ _ => rfl, hv, hP, hK⟩
theorem wK_off {m m' : aj_M} {A : Nat → Int} (hK : wK m [1, 0] A) (h1 : m' [1, 0] = m [1, 0]) (h2 : m' [11, 1, 0] = m [11, 1, 0]) : wK m' [1, 0] A := by
  unfold wK
  rw [h1, h2]
  exact hK
theorem zGs_s {m m1 m2 : aj_M} {A : Nat → Int} (h : zGs m m1 A) (z : zo [[4, 0], [0, 4, 0]] m1 m2) : zGs m m2 A := by
  obtain ⟨h1, h2, h3, h4, h5, h6⟩ := h
  have e1 : m2 [1, 0] = m1 [1, 0] := z _ (by decide)
  have e9 : m2 [9, 0] = m1 [9, 0] := z _ (by decide)
  refine ⟨zo_t h1 (zo_m z (fun p hp => ?_)), fun j hj => by rw [e1]; exact h2 j hj, fun j a b c => by rw [e9]; exact h3 j a b c, fun k => by rw [z _ (by decide)]; exact h4 k, wP_zo h5 (fun r hr => z r ?_), wK_off h6 e1 (z _ (by decide))⟩
  · simp only [List.mem_cons, List.not_mem_nil, or_false] at hp
    rcases hp with e | e <;> (rw [e]; decide)
  · have q : ∀ r ∈ zcpl [1, 0], r ∉ [[4, 0], [0, 4, 0]] := by decide
    exact q r hr
theorem pGuess {f : Nat} {Φ : aj_M → Prop} {m m1 : aj_M} {A B : Nat → Int} (hf : 1000 ≤ f) (hA : wA A) (hB : wA B) (sg : zSg A B) (h : zGs m m1 A) (hS : wS m1 [4, 0] B) (hK : ∀ (m' : aj_M) (st' en : Nat → Nat), zGs m m' A → nC m' [9, 0] (zNn B) (zLk B).length (zFa B) (zFb B) st' en → m' [4, 0] = m1 [4, 0] → m' [0, 4, 0] = m1 [0, 4, 0] → Φ m') : wX5_build f Φ [9, 0] [1, 0] [4, 0] m1 := by
  obtain ⟨h1, h2, h3, h4, h5, h6⟩ := h
  have a6 := hA.2.2.1.2
  have b6 := hB.2.2.1.2
  refine pX5_build (Or.inr rfl) (Or.inr rfl) hB (zAg_P (zSg_Ag sg) a6 h5) (zAg_K (zSg_Ag sg) a6 h6) hS hf ?_
  intro m' st' en n1 _ n3 n4 n5 _ n7 n8
  have gs : zSg B A := fun j hj => (sg j hj).symm
  refine hK m' st' en ⟨?_, fun j hj => by rw [n4 j hj]; exact h2 j hj, fun j x y z => by rw [n5 j x y z]; exact h3 j x y z, fun k => by rw [n3 _ (by decide)]; exact h4 k, zAg_P (zSg_Ag gs) b6 n7, zAg_K (zSg_Ag gs) b6 n8⟩ n1 (n3 _ (by decide)) (n3 _ (by decide))
  refine zo_t h1 (fun p hp => n3 p (fun x => hp ?_))
  simp only [List.mem_cons, List.not_mem_nil, or_false] at x
  rcases x with e | e | e | e | e | e | e | e | e | e <;> (rw [e]; decide)
theorem pGuessRing {f : Nat} {Φ : Int → aj_M → Prop} {m m1 : aj_M} {A B : Nat → Int} (hf : 1000 ≤ f) (hA : wA A) (hB : wA B) (sg : zSg A B) (h : zGs m m1 A) (hS : wS m1 [4, 0] B) (hK : ∀ (m' : aj_M) (z : Int), zGs m m' A → zGir (zNn B) (zLk B).length (zFa B) (zFb B) 1000000 z → m' [4, 0] = m1 [4, 0] → m' [0, 4, 0] = m1 [0, 4, 0] → Φ z m') : wX5_build f (fun m3 => wX5_shortestRing f Φ [9, 0] m3) [9, 0] [1, 0] [4, 0] m1 := by
  refine pGuess hf hA hB sg h hS ?_
  intro m2 st' en g n e1 e2
  refine pX5_shortestRing n (by omega) g.2.2.2.1 ?_
  intro z d vi qu hv hz
  have off : ∀ p, p ∉ ([[10, 9, 0], [12, 9, 0], [13, 9, 0], [14, 9, 0]] : List (List Nat)) → nB m2 [9, 0] d vi (m2 [13, 9, 0]) qu p = m2 p := by
    intro p hp
    simp only [List.mem_cons, List.not_mem_nil, or_false, not_or] at hp
    exact nB_off hp.1 hp.2.1 hp.2.2.1 hp.2.2.2
  obtain ⟨h1, h2, h3, h4, h5, h6⟩ := g
  refine hK _ z ⟨?_, fun j hj => by rw [off _ (by decide)]; exact h2 j hj, fun j a b c => by rw [off _ (by decide)]; exact h3 j a b c, fun k => ?_, wP_zo h5 (fun r hr => off r ?_), wK_off h6 (off _ (by decide)) (off _ (by decide))⟩ hz (by rw [off _ (by decide)]; exact e1) (by rw [off _ (by decide)]; exact e2)
  · refine zo_t h1 (fun p hp => off p (fun x => hp ?_))
    simp only [List.mem_cons, List.not_mem_nil, or_false] at x
    rcases x with e | e | e | e <;> (rw [e]; decide)
  · have : nB m2 [9, 0] d vi (m2 [13, 9, 0]) qu [12, 9, 0] = vi := by
      funext k
      simp [nB, aj_ur]
    rw [this]
    exact hv k
  · have q : ∀ r ∈ zcpl [1, 0], r ∉ ([[10, 9, 0], [12, 9, 0], [13, 9, 0], [14, 9, 0]] : List (List Nat)) := by decide
    exact q r hr
