/-! THE ABSTRACT MACHINE: values are whole numbers or places; the memory is a function of a place's path and a slot -/
abbrev aj_V : Type := Int ⊕ (Int ⊕ aj_R)
abbrev aj_M : Type := List Nat → Nat → Int
abbrev vI (z : Int) : aj_V := Sum.inl z
abbrev vL (z : Int) : aj_V := Sum.inr (Sum.inl z)
abbrev vO (c : Nat) (p : List Nat) : aj_V := Sum.inr (Sum.inr (Sum.inl (c, p)))
abbrev vA (e n : Nat) (p : List Nat) : aj_V := Sum.inr (Sum.inr (Sum.inr (e, n, p)))
/-- the classes' numbers and slots, the places' addresses, the array classes -/
abbrev aj_E : Type := va_G × (List Nat → Nat) × (Nat → ClassId)
def aj_c (E : aj_E) : aj_V → Value
  | .inl z => .int (Int32.ofInt z)
  | .inr (.inl z) => .long (Int64.ofInt z)
  | .inr (.inr r) => .ref (E.2.1 (aj_path r))
def aj_fv (E : aj_E) (mem : aj_M) (p : List Nat) (j : Nat) (k : Nat × Nat × Nat) : Value :=
  if k.1 < 3 then .int (Int32.ofInt (mem p j)) else if k.1 = 3 then .long (Int64.ofInt (mem p j)) else .ref (E.2.1 (j :: p))
def aj_av (E : aj_E) (mem : aj_M) (e : Nat) (p : List Nat) : (Nat → Int32) ⊕ (Nat → Int64) ⊕ (Nat → UInt32) ⊕ (Nat → UInt64) ⊕ (Nat → Option Nat) :=
  if e < 3 then .inl (fun j => Int32.ofInt (mem p j)) else if e = 3 then .inr (.inl (fun j => Int64.ofInt (mem p j))) else .inr (.inr (.inr (.inr (fun j => some (E.2.1 (j :: p))))))
def aj_e (E : aj_E) (mem : aj_M) : aj_R → va_E
  | .inl q => .inr (q.1, (List.range (aj_N q.1)).map fun j => aj_fv E mem q.2 j (aj_F q.1 j))
  | .inr q => .inl (E.2.2 q.1, q.2.1, aj_av E mem q.1 q.2.2)
def aj_W (E : aj_E) (mem : aj_M) : va_W := aj_pls.map fun r => (E.2.1 (aj_path r), aj_e E mem r)
def aj_tys (E : aj_E) : List (ClassId × FieldType) := [(E.2.2 0, .int), (E.2.2 1, .boolean), (E.2.2 2, .byte), (E.2.2 3, .long), (E.2.2 4, .object RX9), (E.2.2 5, .object RX3), (E.2.2 6, .object RX10)]
def aj_A (E : aj_E) : Nat → Prop := fun q => ∃ r, r ∈ aj_pls ∧ q = E.2.1 (aj_path r)
def aj_D (E : aj_E) : Prop := ∀ (i j : Nat) (r r' : aj_R), aj_pls[i]? = some r → aj_pls[j]? = some r' → E.2.1 (aj_path r) = E.2.1 (aj_path r') → i = j
theorem aj_W_at {E : aj_E} {mem : aj_M} {k : Nat} {r : aj_R} (h : aj_pls[k]? = some r) : (aj_W E mem)[k]? = some (E.2.1 (aj_path r), aj_e E mem r) := by
  rw [aj_W, List.getElem?_map, h]
  rfl
theorem aj_W_of {E : aj_E} {mem : aj_M} {k : Nat} {q : Nat × va_E} (h : (aj_W E mem)[k]? = some q) : ∃ r, aj_pls[k]? = some r ∧ q = (E.2.1 (aj_path r), aj_e E mem r) := by
  rw [aj_W, List.getElem?_map] at h
  cases hk : aj_pls[k]? with
  | none => rw [hk] at h; cases h
  | some r => rw [hk] at h; exact ⟨r, rfl, (Option.some.inj h).symm⟩
theorem aj_vD {E : aj_E} {A : Nat → Prop} (hD : aj_D E) (hA : ∀ q, aj_A E q → A q) (mem : aj_M) : va_D A (aj_W E mem) := by
  refine ⟨fun i j p q hi hj e => ?_, fun k q hk => ?_⟩
  · obtain ⟨r, h1, rfl⟩ := aj_W_of hi
    obtain ⟨r', h2, rfl⟩ := aj_W_of hj
    exact hD i j r r' h1 h2 e
  · obtain ⟨r, h1, rfl⟩ := aj_W_of hk
    exact hA _ ⟨r, List.mem_of_getElem? h1, rfl⟩
def aj_u (mem : aj_M) (p : List Nat) (j : Nat) (z : Int) : aj_M := fun q k => if q = p ∧ k = j then z else mem q k
def aj_ur (mem : aj_M) (p : List Nat) (f : Nat → Int) : aj_M := fun q k => if q = p then f k else mem q k
theorem aj_u_off {mem : aj_M} {p q : List Nat} {j : Nat} {z : Int} (h : q ≠ p) : aj_u mem p j z q = mem q := by
  funext k
  simp [aj_u, h]
theorem aj_u_at {mem : aj_M} {p : List Nat} {j k : Nat} {z : Int} : aj_u mem p j z p k = if k = j then z else mem p k := by
  simp [aj_u]
theorem aj_ur_off {mem : aj_M} {p q : List Nat} {f : Nat → Int} (h : q ≠ p) : aj_ur mem p f q = mem q := by
  funext k
  simp [aj_ur, h]
theorem aj_ur_at {mem : aj_M} {p : List Nat} {f : Nat → Int} : aj_ur mem p f p = f := by
  funext k
  simp [aj_ur]
theorem aj_e_off {E : aj_E} {mem mem' : aj_M} {r : aj_R} (h : mem' (aj_path r) = mem (aj_path r)) : aj_e E mem' r = aj_e E mem r := by
  cases r with
  | inl q =>
    have h : mem' q.2 = mem q.2 := h
    simp only [aj_e, aj_fv, h]
  | inr q =>
    have h : mem' q.2.2 = mem q.2.2 := h
    simp only [aj_e, aj_av, h]
theorem aj_W_set {E : aj_E} {mem mem' : aj_M} {k : Nat} {r : aj_R} {e' : va_E} (h : aj_pls[k]? = some r) (hoff : ∀ q, q ≠ aj_path r → mem' q = mem q) (he : aj_e E mem' r = e') : (aj_W E mem).set k (E.2.1 (aj_path r), e') = aj_W E mem' := by
  subst he
  apply List.ext_getElem?
  intro i
  by_cases hi : i = k
  · subst hi
    rw [List.getElem?_set_self (List.getElem?_eq_some_iff.mp (aj_W_at (E := E) (mem := mem) h)).1, aj_W_at h]
  · rw [List.getElem?_set_ne (Ne.symm hi), aj_W, aj_W, List.getElem?_map, List.getElem?_map]
    cases hr : aj_pls[i]? with
    | none => rfl
    | some r' =>
      have hne : aj_path r' ≠ aj_path r := fun e => hi (aj_at_eq hr h e)
      simp only [Option.map_some]
      rw [aj_e_off (hoff _ hne)]
/-- the texts: the reader's words, the signs, the reference's keys; the quaternions' table -/
def aj_slen : List Nat := [121, 12, 123]
def aj_sbyt : List (List Int32) := [[119, 111, 114, 107, 115, 32, 99, 121, 99, 108, 105, 99, 32, 109, 105, 114, 114, 111, 114, 115, 32, 112, 114, 111, 100, 117, 99, 116, 32, 113, 117, 97, 116, 101, 114, 110, 105, 111, 110, 115, 32, 116, 119, 105, 115, 116, 32, 112, 108, 97, 99, 101, 115, 32, 97, 114, 99, 32, 104, 97, 108, 102, 32, 98, 121, 32, 107, 101, 101, 112, 115, 32, 119, 101, 105, 103, 104, 115, 32, 105, 102, 32, 116, 104, 101, 110, 32, 101, 108, 115, 101, 32, 101, 110, 100, 32, 102, 114, 111, 109, 32, 116, 111, 32, 109, 101, 109, 98, 101, 114, 32, 110, 111, 116, 32, 97, 110, 100, 32, 111, 114], [59, 58, 43, 45, 42, 40, 41, 91, 93, 61, 60, 62], [32, 119, 111, 114, 107, 115, 32, 99, 121, 99, 108, 105, 99, 32, 109, 105, 114, 114, 111, 114, 115, 32, 112, 114, 111, 100, 117, 99, 116, 32, 113, 117, 97, 116, 101, 114, 110, 105, 111, 110, 115, 32, 116, 119, 105, 115, 116, 32, 112, 108, 97, 99, 101, 115, 32, 97, 114, 99, 32, 98, 121, 32, 104, 97, 108, 102, 32, 107, 101, 101, 112, 115, 32, 119, 101, 105, 103, 104, 115, 32, 105, 102, 32, 116, 104, 101, 110, 32, 101, 108, 115, 101, 32, 101, 110, 100, 32, 102, 114, 111, 109, 32, 116, 111, 32, 109, 101, 109, 98, 101, 114, 32, 97, 110, 100, 32, 111, 114, 32, 110, 111, 116, 32]]
def aj_axv (j : Nat) : Int := ([0, 1, 2, 3, 1, 4, 3, 6, 2, 7, 4, 1, 3, 2, 5, 4] : List Int).getD j 0
def aj_Z (E : aj_E) (U : State) : Prop := vk_S 3 aj_slen aj_sbyt (fun i => E.2.1 [100 + i]) (fun i => E.2.1 [0, 100 + i]) (aj_A E) U U.heap ∧ vk_R "CageLift$Reader" 208 "works cyclic mirrors product quaternions twist places arc half by keeps weighs if then else end from to member not and or" (E.2.1 [100]) U ∧ vk_R "CageLift$Reader" 201 ";:+-*()[]=<>" (E.2.1 [101]) U ∧ vk_R "CageLiftModel" 98 " works cyclic mirrors product quaternions twist places arc by half keeps weighs if then else end from to member and or not " (E.2.1 [102]) U ∧ vk_R "CageLiftModel" 136 ";:+-*()[]=<>" (E.2.1 [101]) U ∧ va_Z "java/lang/String" "COMPACT_STRINGS" "Z" (.int 1) (aj_A E) U U.heap ∧ va_Zq "jdk/internal/util/Preconditions" "SIOOBE_FORMATTER" "Ljava/util/function/BiFunction;" (aj_A E) U U.heap ∧ va_Z "CageLift$Group" "AXES" "[I" (.ref (E.2.1 [200])) (aj_A E) U U.heap ∧ va_T .int (E.2.1 [200]) 16 (fun j => .int (Int32.ofInt (aj_axv j))) (aj_A E) U U.heap
theorem aj_Z.warm {E : aj_E} {s U : State} (hW : s.WarmedH U.vm) (hk : ∀ q : Nat, q < s.heap.size → ¬ aj_A E q → U.heap[q]? = s.heap[q]?) (h : aj_Z E s) : aj_Z E U := by
  obtain ⟨h1, h2, h3, h4, h5, h6, h7, h8, h9⟩ := h
  exact ⟨(h1.moved hW.alike).kept hk, h2.warm hW, h3.warm hW, h4.warm hW, h5.warm hW, (h6.moved hW.alike).kept hk, (h7.moved hW.alike).kept hk, (h8.moved hW.alike).kept hk, (h9.moved hW.alike).kept hk⟩
theorem aj_Z.same {E : aj_E} {u U : State} (hv : U.vm = u.vm) (hh : U.heap = u.heap) (h : aj_Z E u) : aj_Z E U := by
  obtain ⟨h1, h2, h3, h4, h5, h6, h7, h8, h9⟩ := h
  have ha : u.vm.Alike U.vm := by rw [hv]; exact Vm.Alike.refl u.vm
  refine ⟨?_, h2.same hv, h3.same hv, h4.same hv, h5.same hv, ?_, ?_, ?_, ?_⟩
  · rw [hh]; exact h1.moved ha
  · rw [hh]; exact h6.moved ha
  · rw [hh]; exact h7.moved ha
  · rw [hh]; exact h8.moved ha
  · rw [hh]; exact h9.moved ha
def aj_L (E : aj_E) (nL : Nat) (ls : Array Slot) (lv : List (Option aj_V)) : Prop := ls.size = nL ∧ lv_wf ls ∧ ∀ (i : Nat) (v : aj_V), lv[i]? = some (some v) → ls[i]? = some (.val (aj_c E v))
abbrev aj_T := Program × Launch × Env × Room × State × MethodId × Array Value × List Frame × Method × Code × aj_E × (Nat → Prop) × Nat × Nat × (State → Prop)
/-- from here the machine comes to what is asked -/
def aj_J (X : aj_T) (pc : Nat) (lv : List (Option aj_V)) (st : List aj_V) (mem : aj_M) : Prop := match X with
  | (p, l, e, R, s, m, args, below, meth, c, E, A, ce, sl, Q) => ∀ (H : Heap) (locs : List Loc) (ls : Array Slot), va_P E.1 vwCl (aj_W E mem) H → va_S A s.heap H locs → aj_L E c.maxLocals ls lv → W p l e R s m args below meth c H locs ce sl Q (F0 m pc ls (st.map (aj_c E)))
def aj_Cx (X : aj_T) (cc : ByteArray) (own : String) (nL n : Nat) : Prop := match X with
  | (p, l, e, R, s, m, args, below, meth, c, E, A, ce, sl, Q) => p.tables.exec = Jvm.exec ∧ c.code = cc ∧ c.maxLocals = nL ∧ s.vm.findClass own = some m.cls ∧ (∀ w ∈ aj_TB, w.before args s = true) ∧ va_K E.1 vwCl (aj_tys E) s ∧ aj_D E ∧ (∀ q, aj_A E q → A q) ∧ (aj_Z E s ∧ ∀ q : Nat, q < s.heap.size → A q → aj_A E q) ∧ n ≤ R.frames ∧ 60 * n ≤ R.locals ∧ ce ≤ R.cells ∧ sl ≤ R.slots
/-- a method's end: its answer and the memory behind it -/
def aj_Q (E : aj_E) (Φ : Option aj_V → aj_M → Prop) : Array Value → State → Outcome → State → Prop := fun _ st oc t => (∃ (r : Option aj_V) (mem' : aj_M), oc = .returned (r.map (aj_c E)) ∧ Φ r mem' ∧ va_P E.1 vwCl (aj_W E mem') t.heap) ∧ va_F (aj_A E) st t
def aj_Rt (X : aj_T) (ret : Option FieldType) (Φ : Option aj_V → aj_M → Prop) : Prop := match X with
  | (p, l, e, R, s, m, args, below, meth, c, E, A, ce, sl, Q) => meth.locks = false ∧ meth.sig.returnType = ret ∧ A = aj_A E ∧ Q = MQ below (aj_Q E Φ) args s ce sl (aj_A E)
/-- a method's contract at room n: from these values and this memory it answers so -/
def aj_Ct (n : Nat) (y : MethodName) (cc : ByteArray) (maxL : Nat) (ret : Option FieldType) (As : List aj_V) (mem : aj_M) (Φ : Option aj_V → aj_M → Prop) : Prop :=
  ∀ (l : Launch) (E : aj_E), Met l y (.code y cc maxL ret :: aj_TB) { frames := n, cells := 0, slots := 0, locals := 60 * n } (va_Pc (As.map (aj_c E)) (fun U => va_P E.1 vwCl (aj_W E mem) U.heap ∧ va_K E.1 vwCl (aj_tys E) U ∧ aj_D E ∧ aj_Z E U)) (aj_Q E Φ) 0 0 (aj_A E)
def aj_lvs : List aj_V → List (Option aj_V)
  | [] => []
  | .inl z :: r => some (vI z) :: aj_lvs r
  | .inr (.inl z) :: r => some (vL z) :: none :: aj_lvs r
  | .inr (.inr q) :: r => some (.inr (.inr q)) :: aj_lvs r
theorem aj_lvs_at (E : aj_E) : ∀ (As : List aj_V) (o i : Nat) (v : aj_V), (aj_lvs As)[i]? = some (some v) → (o + i, aj_c E v) ∈ lv_args o (As.map (aj_c E))
  | [], _, _, _, h => by simp [aj_lvs] at h
  | .inl z :: r, o, i, v, h => by
    cases i with
    | zero =>
      simp only [aj_lvs, List.getElem?_cons_zero, Option.some.injEq] at h
      subst h
      exact List.mem_cons_self
    | succ i =>
      rw [aj_lvs, List.getElem?_cons_succ] at h
      have h1 := aj_lvs_at E r (o + 1) i v h
      rw [show o + 1 + i = o + (i + 1) by omega] at h1
      exact List.mem_cons_of_mem _ h1
  | .inr (.inl z) :: r, o, i, v, h => by
    cases i with
    | zero =>
      simp only [aj_lvs, List.getElem?_cons_zero, Option.some.injEq] at h
      subst h
      exact List.mem_cons_self
    | succ i =>
      rw [aj_lvs, List.getElem?_cons_succ] at h
      cases i with
      | zero => simp at h
      | succ i =>
        rw [List.getElem?_cons_succ] at h
        have h1 := aj_lvs_at E r (o + 2) i v h
        rw [show o + 2 + i = o + (i + 1 + 1) by omega] at h1
        exact List.mem_cons_of_mem _ h1
  | .inr (.inr q) :: r, o, i, v, h => by
    cases i with
    | zero =>
      simp only [aj_lvs, List.getElem?_cons_zero, Option.some.injEq] at h
      subst h
      exact List.mem_cons_self
    | succ i =>
      rw [aj_lvs, List.getElem?_cons_succ] at h
      have h1 := aj_lvs_at E r (o + 1) i v h
      rw [show o + 1 + i = o + (i + 1) by omega] at h1
      exact List.mem_cons_of_mem _ h1
theorem aj_sl_len (E : aj_E) : ∀ As : List aj_V, (lg_sl (As.map (aj_c E))).length = (aj_lvs As).length
  | [] => rfl
  | .inl z :: r => by
    have h := aj_sl_len E r
    simp only [lg_sl, List.map_cons, List.flatMap_cons, List.length_append, aj_lvs, List.length_cons] at h ⊢
    rw [h]
    simp [aj_c, Value.category]
    omega
  | .inr (.inl z) :: r => by
    have h := aj_sl_len E r
    simp only [lg_sl, List.map_cons, List.flatMap_cons, List.length_append, aj_lvs, List.length_cons] at h ⊢
    rw [h]
    simp [aj_c, Value.category]
    omega
  | .inr (.inr q) :: r => by
    have h := aj_sl_len E r
    simp only [lg_sl, List.map_cons, List.flatMap_cons, List.length_append, aj_lvs, List.length_cons] at h ⊢
    rw [h]
    simp [aj_c, Value.category]
    omega
theorem aj_met {n : Nat} {y : MethodName} {cc : ByteArray} {maxL : Nat} {ret : Option FieldType} {As : List aj_V} {mem : aj_M} {Φ : Option aj_V → aj_M → Prop} {lv : List (Option aj_V)} (hy : plainName y.cls = true) (hl : aj_lvs As ++ List.replicate (maxL - (aj_lvs As).length) none = lv) (hn : (aj_lvs As).length ≤ maxL)
    (body : ∀ X : aj_T, aj_Cx X cc y.cls maxL n → aj_Rt X ret Φ → aj_J X 0 lv [] mem) : aj_Ct n y cc maxL ret As mem Φ := by
  intro l E
  refine Met.ofW (cc := cc) (maxL := maxL) (ret := ret) hy rfl ?_
  intro p e s m args below meth c s₁ B hml hv
  obtain ⟨rfl, hP, hK, hD, hZ⟩ := hv
  have hts := atoms_spec (ws := .code y cc maxL ret :: aj_TB) B.pre
  have hown : s.vm.findClass y.cls = some m.cls := findClass_of_methodNamed B.named
  have hb := body (p, l, e, { frames := n, cells := 0, slots := 0, locals := 60 * n }, s, m, (As.map (aj_c E)).toArray, below, meth, c, E, aj_A E, 0, 0, MQ below (aj_Q E Φ) (As.map (aj_c E)).toArray s 0 0 (aj_A E))
    ⟨B.exec, B.bytes, hml, hown, fun w hw => hts w (List.mem_cons_of_mem _ hw), hK, hD, fun q h => h, ⟨hZ, fun _ _ h => h⟩, Nat.le_refl _, Nat.le_refl _, Nat.zero_le _, Nat.zero_le _⟩ ⟨B.notSynchronized, B.returns, rfl, rfl⟩
  have he := lv_entry (As.map (aj_c E)) (n := maxL) (by rw [aj_sl_len]; exact hn)
  rw [lg_entry_eq]
  refine hb s.heap [] _ hP va_S.rf ⟨by rw [hml]; exact he.1, he.2.1, fun i v h => ?_⟩
  have h2 : (aj_lvs As)[i]? = some (some v) := by
    rw [← hl] at h
    by_cases hi : i < (aj_lvs As).length
    · rwa [List.getElem?_append_left hi] at h
    · rw [List.getElem?_append_right (by omega), List.getElem?_replicate] at h
      split at h <;> simp at h
  have h3 := aj_lvs_at E As 0 i v h2
  rw [Nat.zero_add] at h3
  exact he.2.2 _ h3
