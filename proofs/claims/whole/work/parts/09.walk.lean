abbrev rI (x : Int) : Prop := -2147483648 ≤ x ∧ x < 2147483648
abbrev rL (x : Int) : Prop := -9223372036854775808 ≤ x ∧ x < 9223372036854775808
theorem aj_nm {X : aj_T} {pc : Nat} {lv : List (Option aj_V)} {st : List aj_V} {m0 : aj_M} (k : ∀ m1, m1 = m0 → aj_J X pc lv st m1) : aj_J X pc lv st m0 := k m0 rfl
def aj_sub : List (Option aj_V) → List (Option aj_V) → Prop
  | [], _ => True
  | none :: r, _ :: t => aj_sub r t
  | some v :: r, w :: t => w = some v ∧ aj_sub r t
  | _ :: _, [] => False
theorem aj_sub_at : ∀ {a b : List (Option aj_V)}, aj_sub a b → ∀ (i : Nat) (v : aj_V), a[i]? = some (some v) → b[i]? = some (some v)
  | [], _, _, i, v, h => by simp at h
  | none :: r, w :: t, hs, i, v, h => by
    cases i with
    | zero => simp at h
    | succ i =>
      rw [List.getElem?_cons_succ] at h ⊢
      exact aj_sub_at (a := r) (b := t) hs i v h
  | some u :: r, w :: t, hs, i, v, h => by
    cases i with
    | zero =>
      simp only [List.getElem?_cons_zero, Option.some.injEq] at h ⊢
      rw [hs.1, h]
    | succ i =>
      rw [List.getElem?_cons_succ] at h ⊢
      exact aj_sub_at (a := r) (b := t) hs.2 i v h
  | some _ :: _, [], hs, _, _, _ => hs.elim
  | none :: _, [], hs, _, _, _ => hs.elim
theorem aj_wk {X : aj_T} {pc : Nat} {lv lv' : List (Option aj_V)} {st : List aj_V} {m : aj_M} (h : aj_sub lv' lv) (k : aj_J X pc lv' st m) : aj_J X pc lv st m := by
  obtain ⟨p, l, e, R, s, m0, args, below, meth, c, E, A, ce, sl, Q⟩ := X
  intro H locs ls hP hS hl
  exact k H locs ls hP hS ⟨hl.1, hl.2.1, fun i v hi => hl.2.2 i v (aj_sub_at h i v hi)⟩
theorem aj_np {y : MethodName} {l : List aj_V} (k : Nat) (h : (parseMethodDescriptor y.desc).map (fun d => d.parameters.length) = some k) (hl : l.length = k) : (parseMethodDescriptor y.desc).map (fun d => d.parameters.length) = some l.length := by rw [hl]; exact h
