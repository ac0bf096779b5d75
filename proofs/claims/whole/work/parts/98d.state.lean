/-! THE STATE OF BOTH -/
def cRl : List (List Nat) := zHl ++ ((List.range 2).flatMap (fun i => zIl i) ++ ((List.range 4).flatMap (fun t => [[t, 7, 0], [0, t, 7, 0]]) ++ [[0, 0], [0, 0, 0]]))
def cRest (m : aj_M) (A S N : Nat → Int) (V : Nat → Nat → Int) (I : Nat → Bool) (T : Nat → Int) (n : Nat) (fk fa : Int) : Prop := zHC m A ∧ zIC m I A ∧ tC m S N V ∧ zTpC m T n ∧ m [0, 0] 9 = fk ∧ m [0, 0] 10 = fa
theorem zIC_off {m m' : aj_M} {I : Nat → Bool} {A : Nat → Int} (h : zIC m I A) (e : ∀ i, i < 2 → ∀ p, p ∈ zIl i → m' p = m p) : zIC m' I A := by
  intro i hi
  have e := e i hi
  obtain ⟨h1, h2⟩ := h i hi
  refine ⟨by rw [e _ (by simp [zIl])]; exact h1, fun x => ⟨wP_zo (h2 x).1 (fun r hr => e r (List.mem_cons_of_mem _ (List.mem_cons_of_mem _ (List.mem_cons_of_mem _ hr)))), wS_off (h2 x).2 (e _ (by simp [zIl])) (e _ (by simp [zIl]))⟩⟩
theorem tC_off4 {m m' : aj_M} {S N : Nat → Int} {V : Nat → Nat → Int} (h : tC m S N V) (e : ∀ t, t < 4 → m' [t, 7, 0] = m [t, 7, 0] ∧ m' [0, t, 7, 0] = m [0, t, 7, 0]) : tC m' S N V := by
  intro t ht
  rw [(e t ht).1, (e t ht).2]
  exact h t ht
theorem cRest_off {m m' : aj_M} {A S N : Nat → Int} {V : Nat → Nat → Int} {I : Nat → Bool} {T : Nat → Int} {n : Nat} {fk fa : Int} (h : cRest m A S N V I T n fk fa) (e : ∀ p, p ∈ cRl → m' p = m p) : cRest m' A S N V I T n fk fa := by
  obtain ⟨h1, h2, h3, h4, h5, h6⟩ := h
  have e0 : m' [0, 0] = m [0, 0] := e _ (by decide)
  have e1 : m' [0, 0, 0] = m [0, 0, 0] := e _ (by decide)
  refine ⟨zHC_off h1 (fun p hp => e p (List.mem_append_left _ hp)), zIC_off h2 (fun i hi p hp => e p ?_), tC_off4 h3 (fun t ht => ?_), ⟨by rw [e0]; exact h4.1, by rw [e1]; exact h4.2⟩, by rw [e0]; exact h5, by rw [e0]; exact h6⟩
  · exact List.mem_append_right _ (List.mem_append_left _ (List.mem_flatMap.mpr ⟨i, List.mem_range.mpr hi, hp⟩))
  · have : t = 0 ∨ t = 1 ∨ t = 2 ∨ t = 3 := by omega
    rcases this with rfl | rfl | rfl | rfl <;> exact ⟨e _ (by decide), e _ (by decide)⟩
def cNl : List (List Nat) := [[0], [8, 0], [2, 8, 0], [3, 8, 0], [2, 3, 8, 0], [3, 3, 8, 0], [4, 3, 8, 0], [5, 3, 8, 0], [6, 3, 8, 0], [8, 3, 8, 0], [9, 3, 8, 0], [12, 3, 8, 0]]
def zNtC (m : aj_M) (A : Nat → Int) : Prop := (∃ s e, nC m [3, 8, 0] (zNn A) (zLk A).length (zFa A) (zFb A) s e) ∧ zRw2 (zLk A) (m [4, 3, 8, 0]) (m [5, 3, 8, 0]) ∧ (m [3, 8, 0] 7 = 0 ∨ (m [3, 8, 0] 7 = 1 ∧ ∀ l, l < (zLk A).length → m [6, 3, 8, 0] l = zWt A (zFr A l) (zFx A l) (A 62))) ∧ (m [8, 0] 0 = 0 ∨ (m [8, 0] 0 = 1 ∧ zRg (zNn A) (zLk A).length (zFa A) (zFb A) (m [8, 0] 1) (m [2, 8, 0])))
def cNet (m : aj_M) (A : Nat → Int) : Prop := m [3, 8, 0] 16 = 0 ∧ (∀ k, rI (m [12, 3, 8, 0] k)) ∧ (m [0] 12 = 1 ∨ (m [0] 12 = 0 ∧ zNtC m A))
theorem zNtC_off {m m' : aj_M} {A : Nat → Int} (h : zNtC m A) (e : ∀ p, p ∈ cNl → m' p = m p) : zNtC m' A := by
  obtain ⟨⟨s, e', hc⟩, h2, h3, h4⟩ := h
  refine ⟨⟨s, e', nC_of hc (by rw [e _ (by decide)]) (by rw [e _ (by decide)]) (e _ (by decide)) (e _ (by decide)) (e _ (by decide)) (e _ (by decide))⟩, ?_, ?_, ?_⟩
  · rw [e [4, 3, 8, 0] (by decide), e [5, 3, 8, 0] (by decide)]; exact h2
  · rw [e [3, 8, 0] (by decide), e [6, 3, 8, 0] (by decide)]; exact h3
  · rw [e [8, 0] (by decide), e [2, 8, 0] (by decide)]; exact h4
theorem cNet_off {m m' : aj_M} {A : Nat → Int} (h : cNet m A) (e : ∀ p, p ∈ cNl → m' p = m p) : cNet m' A := by
  obtain ⟨h1, h2, h3⟩ := h
  refine ⟨by rw [e _ (by decide)]; exact h1, by rw [e [12, 3, 8, 0] (by decide)]; exact h2, ?_⟩
  rw [e [0] (by decide)]
  rcases h3 with h3 | h3
  · exact Or.inl h3
  · exact Or.inr ⟨h3.1, zNtC_off h3.2 e⟩
def cHu (m : aj_M) : Prop := zHk m ∧ ∀ j, j < 3 → rI (m [10, 0] j)
theorem cHu_off {m m' : aj_M} (h : cHu m) (e1 : m' [10, 0] = m [10, 0]) (e2 : m' [6, 10, 0] = m [6, 10, 0]) : cHu m' := by
  unfold cHu zHk
  rw [e1, e2]
  exact h
def CI (m : aj_M) (A S N : Nat → Int) (V : Nat → Nat → Int) (I : Nat → Bool) (T : Nat → Int) (n : Nat) (fk fa : Int) : Prop := cRest m A S N V I T n fk fa ∧ (wP m [1, 0] A ∧ wK m [1, 0] A) ∧ wS m [2, 0] A ∧ cHu m ∧ cNet m A ∧ (∀ k, rI (m [12, 9, 0] k))
def cAl : List (List Nat) := cRl ++ (zcpl [1, 0] ++ ([[11, 1, 0], [2, 0], [0, 2, 0], [10, 0], [6, 10, 0], [12, 9, 0]] ++ cNl))
theorem CI_off {m m' : aj_M} {A S N : Nat → Int} {V : Nat → Nat → Int} {I : Nat → Bool} {T : Nat → Int} {n : Nat} {fk fa : Int} (h : CI m A S N V I T n fk fa) (e : ∀ p, p ∈ cAl → m' p = m p) : CI m' A S N V I T n fk fa := by
  obtain ⟨h1, ⟨h2, h2'⟩, h3, h4, h5, h6⟩ := h
  refine ⟨cRest_off h1 (fun p hp => e p (List.mem_append_left _ hp)), ⟨wP_zo h2 (fun r hr => e r (List.mem_append_right _ (List.mem_append_left _ hr))), wK_off h2' (e _ (by decide)) (e _ (by decide))⟩, wS_off h3 (e _ (by decide)) (e _ (by decide)), cHu_off h4 (e _ (by decide)) (e _ (by decide)), cNet_off h5 (fun p hp => e p (List.mem_append_right _ (List.mem_append_right _ (List.mem_append_right _ hp)))), by rw [e [12, 9, 0] (by decide)]; exact h6⟩
def RI (m : aj_M) (A S N : Nat → Int) (V : Nat → Nat → Int) (I : Nat → Bool) (T : Nat → Int) (n : Nat) (fk fa : Int) : Prop := m [1, 1] = A ∧ zIR m I ∧ tR m S N V ∧ zTpR m T n ∧ m [1] 13 = fk ∧ m [1] 14 = fa
def rAl : List (List Nat) := [[1, 1], [2, 1], [3, 1], [44, 1], [45, 1], [46, 1]]
theorem RI_off {m m' : aj_M} {A S N : Nat → Int} {V : Nat → Nat → Int} {I : Nat → Bool} {T : Nat → Int} {n : Nat} {fk fa : Int} (h : RI m A S N V I T n fk fa) (e : ∀ p, p ∈ rAl → m' p = m p) (e5 : m' [1] 5 = m [1] 5) (e13 : m' [1] 13 = m [1] 13) (e14 : m' [1] 14 = m [1] 14) : RI m' A S N V I T n fk fa := by
  unfold RI zIR tR zTpR
  rw [e [1, 1] (by decide), e [2, 1] (by decide), e [3, 1] (by decide), e [44, 1] (by decide), e [45, 1] (by decide), e [46, 1] (by decide), e5, e13, e14]
  exact h
def PI (A S N : Nat → Int) (V : Nat → Nat → Int) (I : Nat → Bool) (T : Nat → Int) (n : Nat) (fk fa : Int) : Prop := wA A ∧ zHA A ∧ zIA I A ∧ tO S N V ∧ (∀ j, 0 ≤ T j ∧ T j < 256) ∧ n ≤ 900 ∧ rI fk ∧ rI fa
def gInv (m : aj_M) : Prop := ∃ (A S N : Nat → Int) (V : Nat → Nat → Int) (I : Nat → Bool) (T : Nat → Int) (n : Nat) (fk fa : Int), PI A S N V I T n fk fa ∧ CI m A S N V I T n fk fa ∧ RI m A S N V I T n fk fa
/-! answers -/
theorem q2 {N : aj_M → Prop} {z z2 : Int} {m2 : aj_M} (e : z = z2) (r : rI z) (h : N m2) : rI z ∧ rI z2 ∧ (z = z2 → N m2) ∧ (¬ z = z2 → False) := ⟨r, e ▸ r, fun _ => h, fun x => x e⟩
theorem q2L {N : aj_M → Prop} {z z2 : Int} {m2 : aj_M} (e : z = z2) (r : rL z) (h : N m2) : rL z ∧ rL z2 ∧ (z = z2 → N m2) ∧ (¬ z = z2 → False) := ⟨r, e ▸ r, fun _ => h, fun x => x e⟩
/-! what the class does not touch, what the reference does not touch -/
def kR (m m' : aj_M) : Prop := ∀ p, p ∈ ([1] :: rAl) → m' p = m p
theorem kR_zo {l : List (List Nat)} {m m' : aj_M} (h : zo l m m') (hl : ∀ p, p ∈ ([1] :: rAl) → p ∉ l) : kR m m' := fun p hp => h p (hl p hp)
theorem kR_t {m m1 m2 : aj_M} (h : kR m m1) (k : kR m1 m2) : kR m m2 := fun p hp => (k p hp).trans (h p hp)
theorem kR_r {m : aj_M} : kR m m := fun _ _ => rfl
theorem RI_k {m m' : aj_M} {A S N : Nat → Int} {V : Nat → Nat → Int} {I : Nat → Bool} {T : Nat → Int} {n : Nat} {fk fa : Int} (h : RI m A S N V I T n fk fa) (k : kR m m') : RI m' A S N V I T n fk fa := RI_off h (fun p hp => k p (List.mem_cons_of_mem _ hp)) (by rw [k _ (by decide)]) (by rw [k _ (by decide)]) (by rw [k _ (by decide)])
def kC (m m' : aj_M) : Prop := ∀ p, p ∈ cAl → m' p = m p
theorem kC_zo {l : List (List Nat)} {m m' : aj_M} (h : zo l m m') (hl : ∀ p, p ∈ cAl → p ∉ l) : kC m m' := fun p hp => h p (hl p hp)
theorem kC_t {m m1 m2 : aj_M} (h : kC m m1) (k : kC m1 m2) : kC m m2 := fun p hp => (k p hp).trans (h p hp)
theorem kC_rZ {m : aj_M} : kC m (rZ m) := kC_zo (l := [[1]]) (fun p hp => zu_off (by simpa using hp)) (by decide)
theorem RI_rZ {m : aj_M} {A S N : Nat → Int} {V : Nat → Nat → Int} {I : Nat → Bool} {T : Nat → Int} {n : Nat} {fk fa : Int} (h : RI m A S N V I T n fk fa) : RI (rZ m) A S N V I T n fk fa := by
  refine RI_off h (fun p hp => zu_off ?_) ?_ ?_ ?_
  · intro e
    have q : ([1] : List Nat) ∉ rAl := by decide
    exact q (e ▸ hp)
  · show aj_u m [1] 0 0 [1] 5 = _
    rw [zu_tup, tup_o (by decide)]
  · show aj_u m [1] 0 0 [1] 13 = _
    rw [zu_tup, tup_o (by decide)]
  · show aj_u m [1] 0 0 [1] 14 = _
    rw [zu_tup, tup_o (by decide)]
/-- both stand as before: the class did nothing that counts, nor did the reference -/
theorem inv_q {m1 m2 : aj_M} {A S N : Nat → Int} {V : Nat → Nat → Int} {I : Nat → Bool} {T : Nat → Int} {n : Nat} {fk fa : Int} (P : PI A S N V I T n fk fa) (C : CI m1 A S N V I T n fk fa) (k : kC m1 m2) (R : RI m2 A S N V I T n fk fa) : gInv m2 := ⟨A, S, N, V, I, T, n, fk, fa, P, CI_off C k, R⟩
theorem RI_st {m m' : aj_M} {A S N : Nat → Int} {V : Nat → Nat → Int} {I : Nat → Bool} {T : Nat → Int} {n : Nat} {fk fa : Int} (h : RI m A S N V I T n fk fa) (st : rSt m m' A) : RI m' A S N V I T n fk fa := by
  obtain ⟨h1, h2, h3, h4, h5, h6⟩ := h
  have o : ∀ p, p ∉ rSl → m' p = m p := st.1
  have e2 : m' [2, 1] = m [2, 1] := o _ (by decide)
  have e3 : m' [3, 1] = m [3, 1] := o _ (by decide)
  have e44 : m' [44, 1] = m [44, 1] := o _ (by decide)
  have e45 : m' [45, 1] = m [45, 1] := o _ (by decide)
  have e46 : m' [46, 1] = m [46, 1] := o _ (by decide)
  refine ⟨st.2.2, ?_, ?_, ?_, st.2.1.2.1.trans h5, st.2.1.2.2.trans h6⟩
  · unfold zIR
    rw [e2]
    exact h2
  · unfold tR
    rw [e44, e45, e46]
    exact h3
  · unfold zTpR
    rw [e3, st.2.1.1]
    exact h4
theorem kC_st {m m' : aj_M} {A : Nat → Int} (st : rSt m m' A) : kC m m' := kC_zo st.1 (by decide)
/-- a guess leaves the class's state -/
theorem CI_gs {m m' : aj_M} {A S N : Nat → Int} {V : Nat → Nat → Int} {I : Nat → Bool} {T : Nat → Int} {n : Nat} {fk fa : Int} (h : CI m A S N V I T n fk fa) (g : zGs m m' A) : CI m' A S N V I T n fk fa := by
  obtain ⟨h1, h2, h3, h4, h5, h6⟩ := h
  have z := g.1
  exact ⟨cRest_off h1 (fun p hp => z p (by
    have q : ∀ p ∈ cRl, p ∉ zGl := by decide
    exact q p hp)), ⟨g.2.2.2.2.1, g.2.2.2.2.2⟩, wS_off h3 (z _ (by decide)) (z _ (by decide)), cHu_off h4 (z _ (by decide)) (z _ (by decide)), cNet_off h5 (fun p hp => z p (by
    have q : ∀ p ∈ cNl, p ∉ zGl := by decide
    exact q p hp)), g.2.2.2.1⟩
theorem kR_gs {m m' : aj_M} {A : Nat → Int} (g : zGs m m' A) : kR m m' := kR_zo g.1 (by decide)
