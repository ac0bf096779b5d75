/-! the kinds: 0 int, 1 boolean, 2 byte, 3 long, 4 an object of class x, 5 an array (element code x, length y) -/
abbrev aj_R : Type := (Nat × List Nat) ⊕ (Nat × Nat × List Nat)
def aj_N : Nat → Nat := fun c => match c with
  | 0 => 4
  | 1 => 3
  | 2 => 8
  | 3 => 3
  | 4 => 7
  | 5 => 17
  | 6 => 12
  | 7 => 11
  | 8 => 10
  | 9 => 3
  | 10 => 3
  | 11 => 13
  | _ => 47
def aj_F0 : Nat → Nat × Nat × Nat := fun k => match k with
  | 0 => (0, 0, 0)
  | 1 => (5, 0, 144)
  | 2 => (5, 0, 12)
  | _ => (5, 0, 12)
def aj_F1 : Nat → Nat × Nat × Nat := fun k => match k with
  | 0 => (5, 4, 10)
  | 1 => (0, 0, 0)
  | _ => (0, 0, 0)
def aj_F2 : Nat → Nat × Nat × Nat := fun k => match k with
  | 0 => (0, 0, 0)
  | 1 => (0, 0, 0)
  | 2 => (0, 0, 0)
  | 3 => (0, 0, 0)
  | 4 => (0, 0, 0)
  | 5 => (0, 0, 0)
  | 6 => (5, 0, 14)
  | _ => (5, 0, 14)
def aj_F3 : Nat → Nat × Nat × Nat := fun k => match k with
  | 0 => (4, 6, 0)
  | 1 => (4, 9, 0)
  | _ => (1, 0, 0)
def aj_F4 : Nat → Nat × Nat × Nat := fun k => match k with
  | 0 => (5, 0, 900)
  | 1 => (0, 0, 0)
  | 2 => (0, 0, 0)
  | 3 => (0, 0, 0)
  | 4 => (0, 0, 0)
  | 5 => (0, 0, 0)
  | _ => (5, 0, 64)
def aj_F5 : Nat → Nat × Nat × Nat := fun k => match k with
  | 0 => (0, 0, 0)
  | 1 => (0, 0, 0)
  | 2 => (5, 0, 144)
  | 3 => (5, 0, 144)
  | 4 => (5, 0, 144)
  | 5 => (5, 0, 144)
  | 6 => (5, 0, 144)
  | 7 => (1, 0, 0)
  | 8 => (5, 0, 62)
  | 9 => (5, 0, 288)
  | 10 => (5, 0, 60)
  | 11 => (5, 0, 60)
  | 12 => (5, 0, 60)
  | 13 => (5, 0, 60)
  | 14 => (5, 0, 60)
  | 15 => (3, 0, 0)
  | _ => (3, 0, 0)
def aj_F6 : Nat → Nat × Nat × Nat := fun k => match k with
  | 0 => (4, 0, 0)
  | 1 => (4, 4, 0)
  | 2 => (0, 0, 0)
  | 3 => (0, 0, 0)
  | 4 => (0, 0, 0)
  | 5 => (0, 0, 0)
  | 6 => (0, 0, 0)
  | 7 => (5, 0, 12)
  | 8 => (5, 0, 12)
  | 9 => (5, 0, 12)
  | 10 => (0, 0, 0)
  | _ => (5, 0, 12)
def aj_F7 : Nat → Nat × Nat × Nat := fun k => match k with
  | 0 => (5, 2, 900)
  | 1 => (0, 0, 0)
  | 2 => (0, 0, 0)
  | 3 => (4, 6, 0)
  | 4 => (1, 0, 0)
  | 5 => (0, 0, 0)
  | 6 => (0, 0, 0)
  | 7 => (0, 0, 0)
  | 8 => (0, 0, 0)
  | 9 => (0, 0, 0)
  | _ => (0, 0, 0)
def aj_F8 : Nat → Nat × Nat × Nat := fun k => match k with
  | 0 => (1, 0, 0)
  | 1 => (0, 0, 0)
  | 2 => (5, 0, 60)
  | 3 => (4, 5, 0)
  | 4 => (5, 0, 3600)
  | 5 => (5, 0, 3600)
  | 6 => (5, 0, 60)
  | 7 => (5, 0, 60)
  | 8 => (5, 0, 6)
  | _ => (3, 0, 0)
def aj_F9 : Nat → Nat × Nat × Nat := fun k => match k with
  | 0 => (5, 0, 12)
  | 1 => (0, 0, 0)
  | _ => (0, 0, 0)
def aj_F10 : Nat → Nat × Nat × Nat := fun k => match k with
  | 0 => (5, 3, 40)
  | 1 => (0, 0, 0)
  | _ => (0, 0, 0)
def aj_F11 : Nat → Nat × Nat × Nat := fun k => match k with
  | 0 => (4, 7, 0)
  | 1 => (4, 6, 0)
  | 2 => (4, 9, 0)
  | 3 => (4, 9, 0)
  | 4 => (4, 9, 0)
  | 5 => (4, 1, 0)
  | 6 => (5, 5, 2)
  | 7 => (5, 6, 4)
  | 8 => (4, 8, 0)
  | 9 => (4, 5, 0)
  | 10 => (4, 2, 0)
  | 11 => (5, 0, 10)
  | _ => (1, 0, 0)
def aj_F12 : Nat → Nat × Nat × Nat := fun k => match k with
  | 0 => (0, 0, 0)
  | 1 => (5, 0, 3315)
  | 2 => (5, 1, 2)
  | 3 => (5, 0, 900)
  | 4 => (5, 0, 1105)
  | 5 => (0, 0, 0)
  | 6 => (0, 0, 0)
  | 7 => (0, 0, 0)
  | 8 => (0, 0, 0)
  | 9 => (0, 0, 0)
  | 10 => (0, 0, 0)
  | 11 => (0, 0, 0)
  | 12 => (0, 0, 0)
  | 13 => (0, 0, 0)
  | 14 => (0, 0, 0)
  | 15 => (1, 0, 0)
  | 16 => (5, 0, 900)
  | 17 => (5, 0, 5)
  | 18 => (5, 0, 144)
  | 19 => (5, 0, 144)
  | 20 => (5, 0, 144)
  | 21 => (5, 0, 3600)
  | 22 => (0, 0, 0)
  | 23 => (0, 0, 0)
  | 24 => (5, 0, 60)
  | 25 => (5, 0, 60)
  | 26 => (5, 0, 60)
  | 27 => (5, 0, 14)
  | 28 => (0, 0, 0)
  | 29 => (0, 0, 0)
  | 30 => (5, 0, 60)
  | 31 => (5, 0, 60)
  | 32 => (5, 1, 60)
  | 33 => (0, 0, 0)
  | 34 => (5, 0, 14)
  | 35 => (5, 0, 14)
  | 36 => (0, 0, 0)
  | 37 => (0, 0, 0)
  | 38 => (0, 0, 0)
  | 39 => (0, 0, 0)
  | 40 => (0, 0, 0)
  | 41 => (5, 0, 10)
  | 42 => (3, 0, 0)
  | 43 => (3, 0, 0)
  | 44 => (5, 0, 4)
  | 45 => (5, 0, 4)
  | _ => (5, 3, 160)
def aj_F : Nat → Nat → Nat × Nat × Nat := fun c => match c with
  | 0 => aj_F0
  | 1 => aj_F1
  | 2 => aj_F2
  | 3 => aj_F3
  | 4 => aj_F4
  | 5 => aj_F5
  | 6 => aj_F6
  | 7 => aj_F7
  | 8 => aj_F8
  | 9 => aj_F9
  | 10 => aj_F10
  | 11 => aj_F11
  | _ => aj_F12
def aj_ek : Nat → Option Nat := fun e => match e with
  | 4 => some 9
  | 5 => some 3
  | 6 => some 10
  | _ => none
def aj_pls : List aj_R := [.inl (11, [0]), .inl (7, [0, 0]), .inr (2, 900, [0, 0, 0]), .inl (6, [3, 0, 0]), .inl (0, [0, 3, 0, 0]), .inr (0, 144, [1, 0, 3, 0, 0]), .inr (0, 12, [2, 0, 3, 0, 0]), .inr (0, 12, [3, 0, 3, 0, 0]), .inl (4, [1, 3, 0, 0]), .inr (0, 900, [0, 1, 3, 0, 0]), .inr (0, 64, [6, 1, 3, 0, 0]), .inr (0, 12, [7, 3, 0, 0]), .inr (0, 12, [8, 3, 0, 0]), .inr (0, 12, [9, 3, 0, 0]), .inr (0, 12, [11, 3, 0, 0]), .inl (6, [1, 0]), .inl (0, [0, 1, 0]), .inr (0, 144, [1, 0, 1, 0]), .inr (0, 12, [2, 0, 1, 0]), .inr (0, 12, [3, 0, 1, 0]), .inl (4, [1, 1, 0]), .inr (0, 900, [0, 1, 1, 0]), .inr (0, 64, [6, 1, 1, 0]), .inr (0, 12, [7, 1, 0]), .inr (0, 12, [8, 1, 0]), .inr (0, 12, [9, 1, 0]), .inr (0, 12, [11, 1, 0]), .inl (9, [2, 0]), .inr (0, 12, [0, 2, 0]), .inl (9, [3, 0]), .inr (0, 12, [0, 3, 0]), .inl (9, [4, 0]), .inr (0, 12, [0, 4, 0]), .inl (1, [5, 0]), .inr (4, 10, [0, 5, 0]), .inl (9, [0, 0, 5, 0]), .inr (0, 12, [0, 0, 0, 5, 0]), .inl (9, [1, 0, 5, 0]), .inr (0, 12, [0, 1, 0, 5, 0]), .inl (9, [2, 0, 5, 0]), .inr (0, 12, [0, 2, 0, 5, 0]), .inl (9, [3, 0, 5, 0]), .inr (0, 12, [0, 3, 0, 5, 0]), .inl (9, [4, 0, 5, 0]), .inr (0, 12, [0, 4, 0, 5, 0]), .inl (9, [5, 0, 5, 0]), .inr (0, 12, [0, 5, 0, 5, 0]), .inl (9, [6, 0, 5, 0]), .inr (0, 12, [0, 6, 0, 5, 0]), .inl (9, [7, 0, 5, 0]), .inr (0, 12, [0, 7, 0, 5, 0]), .inl (9, [8, 0, 5, 0]), .inr (0, 12, [0, 8, 0, 5, 0]), .inl (9, [9, 0, 5, 0]), .inr (0, 12, [0, 9, 0, 5, 0]), .inr (5, 2, [6, 0]), .inl (3, [0, 6, 0]), .inl (6, [0, 0, 6, 0]), .inl (0, [0, 0, 0, 6, 0]), .inr (0, 144, [1, 0, 0, 0, 6, 0]), .inr (0, 12, [2, 0, 0, 0, 6, 0]), .inr (0, 12, [3, 0, 0, 0, 6, 0]), .inl (4, [1, 0, 0, 6, 0]), .inr (0, 900, [0, 1, 0, 0, 6, 0]), .inr (0, 64, [6, 1, 0, 0, 6, 0]), .inr (0, 12, [7, 0, 0, 6, 0]), .inr (0, 12, [8, 0, 0, 6, 0]), .inr (0, 12, [9, 0, 0, 6, 0]), .inr (0, 12, [11, 0, 0, 6, 0]), .inl (9, [1, 0, 6, 0]), .inr (0, 12, [0, 1, 0, 6, 0]), .inl (3, [1, 6, 0]), .inl (6, [0, 1, 6, 0]), .inl (0, [0, 0, 1, 6, 0]), .inr (0, 144, [1, 0, 0, 1, 6, 0]), .inr (0, 12, [2, 0, 0, 1, 6, 0]), .inr (0, 12, [3, 0, 0, 1, 6, 0]), .inl (4, [1, 0, 1, 6, 0]), .inr (0, 900, [0, 1, 0, 1, 6, 0]), .inr (0, 64, [6, 1, 0, 1, 6, 0]), .inr (0, 12, [7, 0, 1, 6, 0]), .inr (0, 12, [8, 0, 1, 6, 0]), .inr (0, 12, [9, 0, 1, 6, 0]), .inr (0, 12, [11, 0, 1, 6, 0]), .inl (9, [1, 1, 6, 0]), .inr (0, 12, [0, 1, 1, 6, 0]), .inr (6, 4, [7, 0]), .inl (10, [0, 7, 0]), .inr (3, 40, [0, 0, 7, 0]), .inl (10, [1, 7, 0]), .inr (3, 40, [0, 1, 7, 0]), .inl (10, [2, 7, 0]), .inr (3, 40, [0, 2, 7, 0]), .inl (10, [3, 7, 0]), .inr (3, 40, [0, 3, 7, 0]), .inl (8, [8, 0]), .inr (0, 60, [2, 8, 0]), .inl (5, [3, 8, 0]), .inr (0, 144, [2, 3, 8, 0]), .inr (0, 144, [3, 3, 8, 0]), .inr (0, 144, [4, 3, 8, 0]), .inr (0, 144, [5, 3, 8, 0]), .inr (0, 144, [6, 3, 8, 0]), .inr (0, 62, [8, 3, 8, 0]), .inr (0, 288, [9, 3, 8, 0]), .inr (0, 60, [10, 3, 8, 0]), .inr (0, 60, [11, 3, 8, 0]), .inr (0, 60, [12, 3, 8, 0]), .inr (0, 60, [13, 3, 8, 0]), .inr (0, 60, [14, 3, 8, 0]), .inr (0, 3600, [4, 8, 0]), .inr (0, 3600, [5, 8, 0]), .inr (0, 60, [6, 8, 0]), .inr (0, 60, [7, 8, 0]), .inr (0, 6, [8, 8, 0]), .inl (5, [9, 0]), .inr (0, 144, [2, 9, 0]), .inr (0, 144, [3, 9, 0]), .inr (0, 144, [4, 9, 0]), .inr (0, 144, [5, 9, 0]), .inr (0, 144, [6, 9, 0]), .inr (0, 62, [8, 9, 0]), .inr (0, 288, [9, 9, 0]), .inr (0, 60, [10, 9, 0]), .inr (0, 60, [11, 9, 0]), .inr (0, 60, [12, 9, 0]), .inr (0, 60, [13, 9, 0]), .inr (0, 60, [14, 9, 0]), .inl (2, [10, 0]), .inr (0, 14, [6, 10, 0]), .inr (0, 14, [7, 10, 0]), .inr (0, 10, [11, 0]), .inl (12, [1]), .inr (0, 3315, [1, 1]), .inr (1, 2, [2, 1]), .inr (0, 900, [3, 1]), .inr (0, 1105, [4, 1]), .inr (0, 900, [16, 1]), .inr (0, 5, [17, 1]), .inr (0, 144, [18, 1]), .inr (0, 144, [19, 1]), .inr (0, 144, [20, 1]), .inr (0, 3600, [21, 1]), .inr (0, 60, [24, 1]), .inr (0, 60, [25, 1]), .inr (0, 60, [26, 1]), .inr (0, 14, [27, 1]), .inr (0, 60, [30, 1]), .inr (0, 60, [31, 1]), .inr (1, 60, [32, 1]), .inr (0, 14, [34, 1]), .inr (0, 14, [35, 1]), .inr (0, 10, [41, 1]), .inr (0, 4, [44, 1]), .inr (0, 4, [45, 1]), .inr (3, 160, [46, 1])]
def aj_path : aj_R → List Nat
  | .inl q => q.2
  | .inr q => q.2.2
def aj_leq : List Nat → List Nat → Bool
  | [], [] => true
  | a :: x, b :: y => Nat.beq a b && aj_leq x y
  | _, _ => false
theorem aj_leq_eq : ∀ {x y : List Nat}, aj_leq x y = true → x = y
  | [], [], _ => rfl
  | [], _ :: _, h => by cases h
  | _ :: _, [], h => by cases h
  | a :: x, b :: y, h => by
    have h1 := (Bool.and_eq_true _ _).mp h
    rw [Nat.eq_of_beq_eq_true h1.1, aj_leq_eq h1.2]
def aj_req : aj_R → aj_R → Bool
  | .inl a, .inl b => Nat.beq a.1 b.1 && aj_leq a.2 b.2
  | .inr a, .inr b => Nat.beq a.1 b.1 && (Nat.beq a.2.1 b.2.1 && aj_leq a.2.2 b.2.2)
  | _, _ => false
theorem aj_req_eq : ∀ {x y : aj_R}, aj_req x y = true → x = y
  | .inl (a, p), .inl (b, q), h => by
    have h1 := (Bool.and_eq_true _ _).mp h
    have e1 : a = b := Nat.eq_of_beq_eq_true h1.1
    have e2 : p = q := aj_leq_eq h1.2
    rw [e1, e2]
  | .inr (a, n, p), .inr (b, k, q), h => by
    have h1 := (Bool.and_eq_true _ _).mp h
    have h2 := (Bool.and_eq_true _ _).mp h1.2
    have e1 : a = b := Nat.eq_of_beq_eq_true h1.1
    have e2 : n = k := Nat.eq_of_beq_eq_true h2.1
    have e3 : p = q := aj_leq_eq h2.2
    rw [e1, e2, e3]
  | .inl _, .inr _, h => by cases h
  | .inr _, .inl _, h => by cases h
def aj_inB (r : aj_R) : Bool := aj_pls.any (fun q => aj_req q r)
theorem aj_in_of {r : aj_R} (h : aj_inB r = true) : r ∈ aj_pls := by
  obtain ⟨q, hq, e⟩ := List.any_eq_true.mp h
  rw [← aj_req_eq e]
  exact hq
def aj_clF (p : List Nat) (j : Nat) (k : Nat × Nat × Nat) : Bool := if Nat.beq k.1 4 then aj_inB (.inl (k.2.1, j :: p)) else if Nat.beq k.1 5 then aj_inB (.inr (k.2.1, k.2.2, j :: p)) else true
def aj_clB : aj_R → Bool
  | .inl (c, p) => (List.range (aj_N c)).all fun j => aj_clF p j (aj_F c j)
  | .inr (e, n, p) => match aj_ek e with
    | some c => (List.range n).all fun i => aj_inB (.inl (c, i :: p))
    | none => true
theorem aj_closed : aj_pls.all aj_clB = true := by decide +kernel
theorem aj_cf {c j x y : Nat} {p : List Nat} (h : (.inl (c, p) : aj_R) ∈ aj_pls) (hj : j < aj_N c) (hf : aj_F c j = (4, x, y)) : (.inl (x, j :: p) : aj_R) ∈ aj_pls := by
  have h1 := List.all_eq_true.mp aj_closed _ h
  have h2 := List.all_eq_true.mp h1 j (List.mem_range.mpr hj)
  rw [hf] at h2
  exact aj_in_of h2
theorem aj_ca {c j e n : Nat} {p : List Nat} (h : (.inl (c, p) : aj_R) ∈ aj_pls) (hj : j < aj_N c) (hf : aj_F c j = (5, e, n)) : (.inr (e, n, j :: p) : aj_R) ∈ aj_pls := by
  have h1 := List.all_eq_true.mp aj_closed _ h
  have h2 := List.all_eq_true.mp h1 j (List.mem_range.mpr hj)
  rw [hf] at h2
  exact aj_in_of h2
theorem aj_ce {e n i c : Nat} {p : List Nat} (h : (.inr (e, n, p) : aj_R) ∈ aj_pls) (he : aj_ek e = some c) (hi : i < n) : (.inl (c, i :: p) : aj_R) ∈ aj_pls := by
  have h1 := List.all_eq_true.mp aj_closed _ h
  unfold aj_clB at h1
  simp only [he] at h1
  exact aj_in_of (List.all_eq_true.mp h1 i (List.mem_range.mpr hi))
def aj_nd1 : List (List Nat) → Bool
  | [] => true
  | p :: r => (r.all fun q => !(aj_leq p q)) && aj_nd1 r
theorem aj_leq_rf : ∀ x : List Nat, aj_leq x x = true
  | [] => rfl
  | a :: x => by
    show (Nat.beq a a && aj_leq x x) = true
    rw [aj_leq_rf x, Nat.beq_refl]
    rfl
theorem aj_nd1_of : ∀ {l : List (List Nat)}, aj_nd1 l = true → ∀ (i j : Nat) (p : List Nat), l[i]? = some p → l[j]? = some p → i = j
  | [], _, i, _, _, h1, _ => by simp at h1
  | q :: r, h, i, j, p, h1, h2 => by
    have h3 := (Bool.and_eq_true _ _).mp h
    have hne : ∀ k, r[k]? = some p → q = p → False := fun k hk e => by
      have h4 := List.all_eq_true.mp h3.1 p (List.mem_of_getElem? hk)
      rw [e, aj_leq_rf] at h4
      cases h4
    cases i with
    | zero =>
      cases j with
      | zero => rfl
      | succ j =>
        simp only [List.getElem?_cons_zero, Option.some.injEq] at h1
        rw [List.getElem?_cons_succ] at h2
        exact (hne j h2 h1).elim
    | succ i =>
      cases j with
      | zero =>
        simp only [List.getElem?_cons_zero, Option.some.injEq] at h2
        rw [List.getElem?_cons_succ] at h1
        exact (hne i h1 h2).elim
      | succ j =>
        rw [List.getElem?_cons_succ] at h1 h2
        rw [aj_nd1_of h3.2 i j p h1 h2]
theorem aj_nodup : aj_nd1 (aj_pls.map aj_path) = true := by decide +kernel
theorem aj_at_eq {i j : Nat} {r r' : aj_R} (h1 : aj_pls[i]? = some r) (h2 : aj_pls[j]? = some r') (h : aj_path r = aj_path r') : i = j :=
  aj_nd1_of aj_nodup i j (aj_path r) (by rw [List.getElem?_map, h1]; rfl) (by rw [List.getElem?_map, h2, h]; rfl)
