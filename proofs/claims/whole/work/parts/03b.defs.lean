/-! the words that hold everywhere; what a link is -/
/-- the words that hold everywhere -/
def aj_TB : List Cond := lw_tbl.filter goodWord
theorem aj_mem {w : Cond} (i : Nat) (h : lw_tbl[i]? = some w) (hg : goodWord w = true) : w ∈ aj_TB := List.mem_filter.mpr ⟨List.mem_of_getElem? h, hg⟩
theorem aj_good {c : Cond} (hc : c ∈ aj_TB) : GoodIn aj_TB (c :: aj_TB) := fun w hw => by
  rcases List.mem_cons.mp hw with rfl | h
  · exact ⟨hc, good_of_word (List.mem_filter.mp hc).2⟩
  · exact ⟨h, good_of_word (List.mem_filter.mp h).2⟩
def aj_kd (k : Nat) (ty : FieldType) : Prop := (k = 0 → ty = .int) ∧ (k = 1 → ty = .boolean) ∧ (k = 2 → ty = .byte) ∧ (k = 3 → ty = .long)
def aj_CF (c : Nat) (C : String) (T : u_T) (ty0 : Nat → FieldType) : Prop := vwCl[c]? = some (C, T, aj_N c) ∧ (∀ w ∈ u_ws C T (aj_N c), w ∈ aj_TB) ∧ (∀ k, k < aj_N c → parseFieldDescriptor (T k).2.2.1 = some (ty0 k)) ∧ (∀ a, a < aj_N c → ∀ b, b < aj_N c → a ≠ b → (T a).2.1 ≠ (T b).2.1) ∧ ∀ k, k < aj_N c → aj_kd (aj_F c k).1 (ty0 k)
/-- in class own, entry idx is field j of class c -/
def aj_FL (own : String) (idx c j : Nat) : Prop := ∃ (C : String) (T : u_T) (ty0 : Nat → FieldType), aj_CF c C T ty0 ∧ j < aj_N c ∧ Cond.fieldLink own idx (T j).1 (T j).2.1 (T j).2.2.1 ∈ aj_TB
def aj_FP (own : String) (idx c j : Nat) : Prop := ∃ (C : String) (T : u_T) (ty0 : Nat → FieldType), aj_CF c C T ty0 ∧ j < aj_N c ∧ Cond.fieldLink own idx (T j).1 (T j).2.1 (T j).2.2.1 ∈ aj_TB ∧ (T j).2.2.2 = false
theorem aj_ws_of {ws : List Cond} (is : List Nat) (h : ws = is.filterMap (fun i => lw_tbl[i]?)) (hg : ws.all goodWord = true) : ∀ w ∈ ws, w ∈ aj_TB := fun w hw => by
  have h1 := List.all_eq_true.mp hg w hw
  rw [h] at hw
  obtain ⟨i, -, hi⟩ := List.mem_filterMap.mp hw
  exact aj_mem i hi h1
def aj_ML (own : String) (idx : Nat) (y : MethodName) (bytes : ByteArray) (maxL : Nat) (ret : Option FieldType) : Prop := Cond.methodLink own idx y ∈ aj_TB ∧ Cond.initialized y.cls ∈ aj_TB ∧ Cond.code y bytes maxL ret ∈ aj_TB ∧ (y.cls ≠ "java/lang/invoke/MethodHandle" ∧ y.cls ≠ "java/lang/invoke/VarHandle") ∧ maxL ≤ 41
def aj_MV (own : String) (idx : Nat) (y : MethodName) (bytes : ByteArray) (maxL : Nat) (ret : Option FieldType) (c0 : Nat) : Prop := aj_ML own idx y bytes maxL ret ∧ Cond.instanceMethod y ∈ aj_TB ∧ Cond.selects y.cls y y ∈ aj_TB ∧ ∃ (T : u_T) (N : Nat), vwCl[c0]? = some (y.cls, T, N)
def aj_MS (own : String) (idx : Nat) (y : MethodName) (bytes : ByteArray) (maxL : Nat) (ret : Option FieldType) : Prop := aj_ML own idx y bytes maxL ret ∧ Cond.static y ∈ aj_TB
def aj_MN (own : String) (idx : Nat) : Prop := Cond.methodLink own idx arraycopyName ∈ aj_TB ∧ Cond.native arraycopyName ∈ aj_TB ∧ Cond.static arraycopyName ∈ aj_TB ∧ Cond.initialized "java/lang/System" ∈ aj_TB
def aj_MW (own : String) (idx : Nat) (y : MethodName) (bytes : ByteArray) (maxL : Nat) (ret : Option FieldType) : Prop := aj_ML own idx y bytes maxL ret ∧ Cond.instanceMethod y ∈ aj_TB ∧ Cond.selects y.cls y y ∈ aj_TB
theorem aj_memL {w : Cond} (h : w ∈ lw_tbl) (hg : goodWord w = true) : w ∈ aj_TB := List.mem_filter.mpr ⟨h, hg⟩
