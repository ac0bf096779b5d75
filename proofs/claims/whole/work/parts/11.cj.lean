/-! CONSTRUCTORS: the world is a list of cells that grows at its end; its first cell is the object that is made -/
abbrev cj_T := Program × Launch × Env × Room × State × MethodId × Array Value × List Frame × Method × Code × va_G × (Nat → ClassId) × (Nat → Prop) × (State → Prop)
def cj_ty (cA : Nat → ClassId) : List (ClassId × FieldType) := [(cA 0, .int), (cA 1, .boolean), (cA 2, .byte), (cA 3, .long), (cA 4, .object RX9), (cA 5, .object RX3), (cA 6, .object RX10)]
/-- words on nest mates' constructors and on arrays of objects, which hold as long as the classes are alike -/
def cj_nest : List (String × Nat × MethodName × String) := [("CageLift", 11, ⟨"CageLift$Reader", "<init>", "()V"⟩, "CageLift"), ("CageLift$Reader", 24, ⟨"CageLift$Plan", "<init>", "()V"⟩, "CageLift"), ("CageLift$Plan", 20, ⟨"CageLift$Laws", "<init>", "()V"⟩, "CageLift"), ("CageLift", 18, ⟨"CageLift$Plan", "<init>", "()V"⟩, "CageLift"), ("CageLift", 25, ⟨"CageLift$Setting", "<init>", "()V"⟩, "CageLift"), ("CageLift$History", 24, ⟨"CageLift$Setting", "<init>", "()V"⟩, "CageLift"), ("CageLift", 57, ⟨"CageLift$Rings", "<init>", "()V"⟩, "CageLift"), ("CageLift$Rings", 25, ⟨"CageLift$Network", "<init>", "()V"⟩, "CageLift"), ("CageLift", 64, ⟨"CageLift$Network", "<init>", "()V"⟩, "CageLift"), ("CageLift", 71, ⟨"CageLift$Hunt", "<init>", "()V"⟩, "CageLift"), ("CageLift", 84, ⟨"CageLift$Image", "<init>", "()V"⟩, "CageLift"), ("CageLift$Image", 9, ⟨"CageLift$Plan", "<init>", "()V"⟩, "CageLift"), ("CageLift$Image", 18, ⟨"CageLift$Setting", "<init>", "()V"⟩, "CageLift"), ("CageLift", 85, ⟨"CageLift$Tray", "<init>", "()V"⟩, "CageLift")]
def cj_N (U : State) : Prop := (∀ q ∈ cj_nest, va_Nw (.methodLinkNest q.1 q.2.1 q.2.2.1 q.2.2.2) U) ∧ va_AO RX9 U ∧ va_AO RX3 U ∧ va_AO RX10 U
theorem cj_N.warm {s U : State} (hW : s.WarmedH U.vm) (h : cj_N s) : cj_N U := ⟨fun q hq => (h.1 q hq).warmM hW, h.2.1.moved hW.alike, h.2.2.1.moved hW.alike, h.2.2.2.moved hW.alike⟩
theorem cj_N.same {u U : State} (hv : u.vm = U.vm) (h : cj_N u) : cj_N U := ⟨fun q hq => (h.1 q hq).same rfl hv, h.2.1.moved (by rw [hv]; exact Vm.Alike.refl U.vm), h.2.2.1.moved (by rw [hv]; exact Vm.Alike.refl U.vm), h.2.2.2.moved (by rw [hv]; exact Vm.Alike.refl U.vm)⟩
def cj_J (X : cj_T) (ce sl pc : Nat) (lv : List (Nat × Value)) (st : List Value) (ws : va_W) : Prop := match X with
  | (p, l, e, R, s, m, args, below, meth, c, D, cA, A, Q) => ∀ (H : Heap) (locs : List Loc) (ls : Array Slot), va_P D vwCl ws H → va_D A ws → va_S A s.heap H locs → lv_has ls c.maxLocals lv → W p l e R s m args below meth c H locs ce sl Q (F0 m pc ls st)
def cj_Cx (X : cj_T) (cc : ByteArray) (own : String) (nL n kc ks : Nat) : Prop := match X with
  | (p, l, e, R, s, m, args, below, meth, c, D, cA, A, Q) => p.tables.exec = Jvm.exec ∧ c.code = cc ∧ c.maxLocals = nL ∧ s.vm.findClass own = some m.cls ∧ (∀ w ∈ aj_TB, w.before args s = true) ∧ va_K D vwCl (cj_ty cA) s ∧ (∀ q, s.heap.size ≤ q → A q) ∧ n ≤ R.frames ∧ 60 * n ≤ R.locals ∧ kc ≤ R.cells ∧ ks ≤ R.slots ∧ cj_N s
/-- what a constructor leaves: the cells of an object and of all that it holds, by their addresses -/
abbrev cj_B : Type := (Nat → ClassId) → (Nat → Nat) → va_W
def cj_x (a ci : Nat) (df : List Value) : va_W := [(a, .inr (ci, df))]
def cj_Q (D : va_G) (cA : Nat → ClassId) (b : cj_B) (a : Nat) (A : Nat → Prop) : Array Value → State → Outcome → State → Prop := va_Qv (fun ad : Nat → Nat => ad 0 = a) (fun ad t => va_P D vwCl (b cA ad) t.heap ∧ va_D A (b cA ad)) A
def cj_Ct (n : Nat) (y : MethodName) (cc : ByteArray) (maxL ci kc ks : Nat) (df : List Value) (b : cj_B) : Prop :=
  ∀ (l : Launch) (D : va_G) (cA : Nat → ClassId) (a sz : Nat), Met l y (.code y cc maxL none :: aj_TB) { frames := n, cells := kc, slots := ks, locals := 60 * n } (va_Pc [.ref a] (fun U => U.heap.size = sz ∧ va_P D vwCl (cj_x a ci df) U.heap ∧ va_K D vwCl (cj_ty cA) U ∧ va_D (fun _ => True) (cj_x a ci df) ∧ cj_N U)) (cj_Q D cA b a (va_A (cj_x a ci df) sz)) kc ks (va_A (cj_x a ci df) sz)
def cj_In (X : cj_T) : Prop := match X with
  | (p, l, e, R, s, m, args, below, meth, c, D, cA, A, Q) => meth.name = "<init>"
def cj_Rt (X : cj_T) (b : cj_B) (a kc ks : Nat) : Prop := match X with
  | (p, l, e, R, s, m, args, below, meth, c, D, cA, A, Q) => meth.locks = false ∧ meth.sig.returnType = none ∧ Q = MQ below (cj_Q D cA b a A) args s kc ks A
theorem cj_met {n : Nat} {y : MethodName} {cc : ByteArray} {maxL ci kc ks : Nat} {df : List Value} {b : cj_B} (hy : plainName y.cls = true) (hi : y.name = "<init>") (hm : 1 ≤ maxL)
    (body : ∀ (X : cj_T) (a : Nat), cj_Cx X cc y.cls maxL n kc ks → cj_Rt X b a kc ks → cj_In X → cj_J X 0 0 0 [(0, .ref a)] [] (cj_x a ci df)) : cj_Ct n y cc maxL ci kc ks df b := by
  intro l D cA a sz
  refine Met.ofW (cc := cc) (maxL := maxL) (ret := none) hy rfl ?_
  intro p e s m args below meth c s₁ B hml hv
  obtain ⟨rfl, hsz, hP, hK, hD, hN⟩ := hv
  have hts := atoms_spec (ws := .code y cc maxL none :: aj_TB) B.pre
  have hown : s.vm.findClass y.cls = some m.cls := findClass_of_methodNamed B.named
  have hin : meth.name = y.name := (name_of_methodNamed B.named B.method).1
  subst hsz
  have hb := body (p, l, e, { frames := n, cells := kc, slots := ks, locals := 60 * n }, s, m, ([.ref a] : List Value).toArray, below, meth, c, D, cA, va_A (cj_x a ci df) s.heap.size, MQ below (cj_Q D cA b a (va_A (cj_x a ci df) s.heap.size)) ([.ref a] : List Value).toArray s kc ks (va_A (cj_x a ci df) s.heap.size)) a
    ⟨B.exec, B.bytes, hml, hown, fun w hw => hts w (List.mem_cons_of_mem _ hw), hK, fun q h => Or.inr h, Nat.le_refl _, Nat.le_refl _, Nat.le_refl _, Nat.le_refl _, hN⟩ ⟨B.notSynchronized, B.returns, rfl⟩ (hin.trans hi)
  have he := lv_entry [.ref a] (n := maxL) hm
  rw [lg_entry_eq]
  exact hb s.heap [] _ hP (hD.self (sz := s.heap.size)) va_S.rf (by rw [hml]; exact he)
/-- lists: all but the last -/
theorem cj_rng {α : Type} (ws : List α) (x : α) : (List.range ws.length).map (fun i => (ws ++ [x])[i]?) = ws.map some := by
  apply List.ext_getElem?
  intro i
  rw [List.getElem?_map, List.getElem?_map]
  by_cases h : i < ws.length
  · rw [List.getElem?_range h, Option.map_some, List.getElem?_append_left h, List.getElem?_eq_getElem h]
    rfl
  · rw [List.getElem?_eq_none (by simpa using h), List.getElem?_eq_none (by simpa using h)]
    rfl
theorem cj_nd1 : ∀ l : List Nat, l.Nodup → va_nd l = true
  | [], _ => rfl
  | a :: l, h => by
    have h1 := List.nodup_cons.mp h
    show (decide (a ∉ l) && va_nd l) = true
    rw [cj_nd1 l h1.2]
    simp [h1.1]
def cj_cA (X : cj_T) : Nat → ClassId := X.2.2.2.2.2.2.2.2.2.2.2.1
theorem cj_joinx {A0 : Nat → Prop} {D : va_G} {ws w1 : va_W} {x : Nat × va_E} {H H1 : Heap} (hP : va_P D vwCl (ws ++ [x]) H) (hD : va_D A0 (ws ++ [x])) (hk : ∀ q : Nat, q < H.size → ¬ va_A [x] H.size q → H1[q]? = H[q]?) (hF : ∀ q, va_A [x] H.size q → A0 q) (hP1 : va_P D vwCl w1 H1) (hD1 : va_D (va_A [x] H.size) w1) : va_P D vwCl (ws ++ w1) H1 ∧ va_D A0 (ws ++ w1) :=
  va_join (wr := ws) (wc := [x]) hP hD [ws.length] (List.range ws.length) (by simp) (cj_rng ws x) (cj_nd1 _ List.nodup_range) (fun i hi h => by
    have h1 := List.mem_range.mp hi
    have h2 := List.mem_singleton.mp h
    omega) hk hF hP1 hD1
section CJ
variable {X : cj_T} {cc : ByteArray} {own : String} {nL n kc ks ce sl pc : Nat} {lv : List (Nat × Value)} {st : List Value} {ws : va_W}
theorem cj_aload0 (C : cj_Cx X cc own nL n kc ks) {a : Nat} (d : decode cc pc = .ok (.aload_n 0, 1)) (h : lv[0]? = some (0, .ref a)) (k : cj_J X ce sl (pc + 1) lv (.ref a :: st) ws) : cj_J X ce sl pc lv st ws := by
  obtain ⟨p, l, e0, R, s, m, args, below, meth, c, D, cA, A, Q⟩ := X
  obtain ⟨hx, hb, hml, hown, hts, hK, hA, hfr, hlo, hkc, hks, hNN⟩ := C
  intro H locs ls hP hD hS hl
  exact lv_aload_n hx hb d rfl (lv_at hl 0 h) (k H locs ls hP hD hS hl)
theorem cj_iconst (C : cj_Cx X cc own nL n kc ks) {z : Int} (d : decode cc pc = .ok (.iconst z, 1)) (k : cj_J X ce sl (pc + 1) lv (.int (Int32.ofInt z) :: st) ws) : cj_J X ce sl pc lv st ws := by
  obtain ⟨p, l, e0, R, s, m, args, below, meth, c, D, cA, A, Q⟩ := X
  obtain ⟨hx, hb, hml, hown, hts, hK, hA, hfr, hlo, hkc, hks, hNN⟩ := C
  intro H locs ls hP hD hS hl
  exact lv_iconst hx hb d rfl (k H locs ls hP hD hS hl)
theorem cj_bipush (C : cj_Cx X cc own nL n kc ks) {z : Int} (d : decode cc pc = .ok (.bipush z, 2)) (hz : -128 ≤ z ∧ z < 128) (k : cj_J X ce sl (pc + 2) lv (.int (Int32.ofInt z) :: st) ws) : cj_J X ce sl pc lv st ws := by
  obtain ⟨p, l, e0, R, s, m, args, below, meth, c, D, cA, A, Q⟩ := X
  obtain ⟨hx, hb, hml, hown, hts, hK, hA, hfr, hlo, hkc, hks, hNN⟩ := C
  intro H locs ls hP hD hS hl
  refine lv_bipush hx hb d ?_ (k H locs ls hP hD hS hl)
  apply Int32.toInt_inj.mp
  rw [Int8.toInt_toInt32, Int8.toInt_ofInt_of_le (by omega) (by omega), aj_ri (by omega)]
theorem cj_sipush (C : cj_Cx X cc own nL n kc ks) {z : Int} (d : decode cc pc = .ok (.sipush z, 3)) (hz : -32768 ≤ z ∧ z < 32768) (k : cj_J X ce sl (pc + 3) lv (.int (Int32.ofInt z) :: st) ws) : cj_J X ce sl pc lv st ws := by
  obtain ⟨p, l, e0, R, s, m, args, below, meth, c, D, cA, A, Q⟩ := X
  obtain ⟨hx, hb, hml, hown, hts, hK, hA, hfr, hlo, hkc, hks, hNN⟩ := C
  intro H locs ls hP hD hS hl
  refine lv_sipush hx hb d ?_ (k H locs ls hP hD hS hl)
  apply Int32.toInt_inj.mp
  rw [Int16.toInt_toInt32, Int16.toInt_ofInt_of_le (by omega) (by omega), aj_ri (by omega)]
theorem cj_lconst0 (C : cj_Cx X cc own nL n kc ks) (d : decode cc pc = .ok (.lconst 0, 1)) (k : cj_J X ce sl (pc + 1) lv (.long 0 :: st) ws) : cj_J X ce sl pc lv st ws := by
  obtain ⟨p, l, e0, R, s, m, args, below, meth, c, D, cA, A, Q⟩ := X
  obtain ⟨hx, hb, hml, hown, hts, hK, hA, hfr, hlo, hkc, hks, hNN⟩ := C
  intro H locs ls hP hD hS hl
  exact lv_lconst hx hb d rfl (k H locs ls hP hD hS hl)
theorem cj_dup (C : cj_Cx X cc own nL n kc ks) {v : Value} (hv : v.category = 1) (d : decode cc pc = .ok (.dup, 1)) (k : cj_J X ce sl (pc + 1) lv (v :: v :: st) ws) : cj_J X ce sl pc lv (v :: st) ws := by
  obtain ⟨p, l, e0, R, s, m, args, below, meth, c, D, cA, A, Q⟩ := X
  obtain ⟨hx, hb, hml, hown, hts, hK, hA, hfr, hlo, hkc, hks, hNN⟩ := C
  intro H locs ls hP hD hS hl
  exact lv_dup hx hb d hv (k H locs ls hP hD hS hl)
theorem cj_objInit (C : cj_Cx X cc own nL (n + 1) kc ks) {idx a : Nat} (h1 : Cond.methodLink own idx Lib.objectInit ∈ aj_TB) (h2 : Cond.instanceMethod Lib.objectInit ∈ aj_TB) (h3 : Cond.code Lib.objectInit ⟨#[0xb1]⟩ 1 none ∈ aj_TB) (d : decode cc pc = .ok (.invokespecial idx, 3)) (k : cj_J X ce sl (pc + 3) lv [] ws) : cj_J X ce sl pc lv [.ref a] ws := by
  obtain ⟨p, l, e0, R, s, m, args, below, meth, c, D, cA, A, Q⟩ := X
  obtain ⟨hx, hb, hml, hown, hts, hK, hA, hfr, hlo, hkc, hks, hNN⟩ := C
  intro H locs ls hP hD hS hl
  refine W.objInit hx hb hown (hts _ h1) (hts _ h2) (hts _ h3) rfl (by exact hl.1) rfl d (by omega) ?_ ?_
  · show 2 * 0 + 0 + 12 ≤ R.locals
    omega
  · exact k H locs ls hP hD hS hl
theorem cj_put (C : cj_Cx X cc own nL n kc ks) (I : cj_In X) {idx c0 j a : Nat} {fs : List Value} {v : Value} {ws' : va_W} {Cn : String} {T : u_T} {ty0 : Nat → FieldType} (K : aj_CF c0 Cn T ty0) (hj : j < aj_N c0) (hlk : Cond.fieldLink own idx (T j).1 (T j).2.1 (T j).2.2.1 ∈ aj_TB) (hdecl : (T j).1 = own) (hn : narrow (ty0 j) v = v) (hfit : fits (ty0 j) v = true) (hl0 : j < fs.length) (h0 : ws[0]? = some (a, .inr (c0, fs))) (h1 : ws.set 0 (a, .inr (c0, fs.set j v)) = ws') (d : decode cc pc = .ok (.putfield idx, 3))
    (k : cj_J X ce sl (pc + 3) lv st ws') : cj_J X ce sl pc lv (v :: .ref a :: st) ws := by
  subst h1
  obtain ⟨p, l, e0, R, s, m, args, below, meth, c, D, cA, A, Q⟩ := X
  obtain ⟨hx, hb, hml, hown, hts, hK, hA, hfr, hlo, hkc, hks, hNN⟩ := C
  intro H locs ls hP hD hS hl
  obtain ⟨hc, hw, hty, hnm, hkd⟩ := K
  cases hf : (T j).2.2.2 with
  | false => exact va_put (D := D) (ci := c0) (ty := ty0 j) hx hb hts hw ty0 hty hnm hown hK hP hD hS 0 h0 hc j hj (hts _ hlk) (fun _ h9 => h9) hf (hty j hj) hn hfit hl0 d (fun H1 locs1 hP1 hD1 hS1 => k H1 locs1 ls hP1 hD1 hS1 hl)
  | true => exact va_putF (D := D) (ci := c0) (ty := ty0 j) hx hb hts hw ty0 hty hnm hown hK hP hD hS 0 h0 hc j hj (hts _ hlk) (fun _ h9 => h9) hf I hdecl (hty j hj) hn hfit hl0 d (fun H1 locs1 hP1 hD1 hS1 => k H1 locs1 ls hP1 hD1 hS1 hl)
theorem cj_getr (C : cj_Cx X cc own nL n kc ks) {idx c0 j a : Nat} {fs : List Value} {v : Value} {Cn : String} {T : u_T} {ty0 : Nat → FieldType} (K : aj_CF c0 Cn T ty0) (hj : j < aj_N c0) (hlk : Cond.fieldLink own idx (T j).1 (T j).2.1 (T j).2.2.1 ∈ aj_TB) (h0 : ws[0]? = some (a, .inr (c0, fs))) (hv : fs[j]? = some v) (d : decode cc pc = .ok (.getfield idx, 3))
    (k : cj_J X ce sl (pc + 3) lv (v :: st) ws) : cj_J X ce sl pc lv (.ref a :: st) ws := by
  obtain ⟨p, l, e0, R, s, m, args, below, meth, c, D, cA, A, Q⟩ := X
  obtain ⟨hx, hb, hml, hown, hts, hK, hA, hfr, hlo, hkc, hks, hNN⟩ := C
  intro H locs ls hP hD hS hl
  obtain ⟨hc, hw, hty, hnm, hkd⟩ := K
  exact va_get (D := D) (ci := c0) hx hb hts hw hown hK hP 0 h0 hc j hj (hts _ hlk) (fun _ h9 => h9) hv d (k H locs ls hP hD hS hl)
theorem cj_iast (C : cj_Cx X cc own nL n kc ks) (q0 : Nat) {a N : Nat} {i x : Int} {f g : Nat → Int32} {ws' : va_W} (h0 : ws[q0]? = some (a, .inl (cj_cA X 0, N, .inl f))) (hi : 0 ≤ i ∧ i < N) (hN : N < 100000) (hg : upd f i.toNat (Int32.ofInt x) = g) (h1 : ws.set q0 (a, .inl (cj_cA X 0, N, .inl g)) = ws') (d : decode cc pc = .ok (.iastore, 1))
    (k : cj_J X ce sl (pc + 1) lv st ws') : cj_J X ce sl pc lv (.int (Int32.ofInt x) :: .int (Int32.ofInt i) :: .ref a :: st) ws := by
  subst h1
  subst hg
  obtain ⟨p, l, e0, R, s, m, args, below, meth, c, D, cA, A, Q⟩ := X
  obtain ⟨hx, hb, hml, hown, hts, hK, hA, hfr, hlo, hkc, hks, hNN⟩ := C
  intro H locs ls hP hD hS hl
  refine va_iast hx hb hK hP hD hS q0 0 h0 rfl (aj_in hi (by omega)) d (fun H1 locs1 hP1 hD1 hS1 => ?_)
  rw [aj_cl (by omega)] at hP1 hD1
  exact k H1 locs1 ls hP1 hD1 hS1 hl
theorem cj_anew (C : cj_Cx X cc own nL n kc ks) {idx e : Nat} {z : Int} {N : Nat} {Cn : String} (hcl : Cond.classLink own idx Cn ∈ aj_TB) (hov : ∀ U, cj_N U → va_AO Cn U) (hte : ∀ cA : Nat → ClassId, (cj_ty cA)[e]? = some (cA e, .object Cn)) (hz : z = N) (hN : N < 100000) (hc : ce + 1 ≤ kc) (hs : sl + N ≤ ks) (d : decode cc pc = .ok (.anewarray idx, 3))
    (k : ∀ q : Nat, cj_J X (ce + 1) (sl + N) (pc + 3) lv (.ref q :: st) (ws ++ [(q, .inl (cj_cA X e, N, .inr (.inr (.inr (.inr (fun _ => none))))))])) : cj_J X ce sl pc lv (.int (Int32.ofInt z) :: st) ws := by
  obtain ⟨p, l, e0, R, s, m, args, below, meth, c, D, cA, A, Q⟩ := X
  obtain ⟨hx, hb, hml, hown, hts, hK, hA, hfr, hlo, hkc, hks, hNN⟩ := C
  intro H locs ls hP hD hS hl
  subst hz
  have hao : va_AO Cn s := hov s hNN
  refine va_newq (N' := N) hx hb hown (hts _ hcl) hao hK hP hD hS hA ?_ ?_ (by omega) (by omega) (by omega) d (fun q c1 H1 hK1 hP1 hD1 hS1 => ?_)
  · intro q
    rw [aj_0, aj_lt (by omega) (by omega)] at q
    omega
  · rw [aj_cl (by omega)]
    rfl
  · have e1 : c1 = cA e := by
      obtain ⟨k1, p1, g1, g2, g3, g4⟩ := (hK1.2 7 (c1, .object Cn) rfl).2
      obtain ⟨k2, p2, f1, f2, f3, f4⟩ := (hK.2 e (cA e, .object Cn) (hte cA)).2
      exact Option.some.inj (g4.symm.trans f4)
    subst e1
    exact k q H1 locs ls hP1 hD1 hS1 hl
theorem cj_aast (C : cj_Cx X cc own nL n kc ks) (q0 qk : Nat) {a e N ci v : Nat} {i : Int} {vs : List Value} {f g : Nat → Option Nat} {ws' : va_W} {Cn : String} {T : u_T} {ty0 : Nat → FieldType} (K : aj_CF ci Cn T ty0) (hte : ∀ cA : Nat → ClassId, (cj_ty cA)[e]? = some (cA e, .object Cn)) (h0 : ws[q0]? = some (a, .inl (cj_cA X e, N, .inr (.inr (.inr (.inr f)))))) (hv : ws[qk]? = some (v, .inr (ci, vs))) (hi : 0 ≤ i ∧ i < N) (hN : N < 100000) (hg : va_up f i.toNat (some v) = g) (h1 : ws.set q0 (a, .inl (cj_cA X e, N, .inr (.inr (.inr (.inr g))))) = ws') (d : decode cc pc = .ok (.aastore, 1))
    (k : cj_J X ce sl (pc + 1) lv st ws') : cj_J X ce sl pc lv (.ref v :: .int (Int32.ofInt i) :: .ref a :: st) ws := by
  subst h1
  subst hg
  obtain ⟨p, l, e0, R, s, m, args, below, meth, c, D, cA, A, Q⟩ := X
  obtain ⟨hx, hb, hml, hown, hts, hK, hA, hfr, hlo, hkc, hks, hNN⟩ := C
  intro H locs ls hP hD hS hl
  refine va_astq (r := (Cn, T, aj_N ci)) hx hb hK hP hD hS q0 e qk ci h0 (hte cA) hv K.1 (aj_in hi (by omega)) d (fun H1 locs1 hP1 hD1 hS1 => ?_)
  rw [aj_cl (by omega)] at hP1 hD1
  exact k H1 locs1 ls hP1 hD1 hS1 hl
theorem cj_istore1 (C : cj_Cx X cc own nL n kc ks) {a : Nat} {x : Int} (d : decode cc pc = .ok (.istore_n 1, 1)) (hn : 1 < nL) (hlv : lv = [(0, .ref a)] ∨ ∃ w : Int32, lv = [(0, .ref a), (1, .int w)]) (k : cj_J X ce sl (pc + 1) [(0, .ref a), (1, .int (Int32.ofInt x))] st ws) : cj_J X ce sl pc lv (.int (Int32.ofInt x) :: st) ws := by
  obtain ⟨p, l, e0, R, s, m, args, below, meth, c, D, cA, A, Q⟩ := X
  obtain ⟨hx, hb, hml, hown, hts, hK, hA, hfr, hlo, hkc, hks, hNN⟩ := C
  intro H locs ls hP hD hS hl
  rcases hlv with rfl | ⟨w, rfl⟩
  · exact lv_istore_n (lv' := [(1, .int (Int32.ofInt x)), (0, .ref a)]) hx hb d rfl hl (by rw [hml]; exact hn) rfl (fun ls' h' => k H locs ls' hP hD hS (lv_sub h' [1, 0] rfl))
  · exact lv_istore_n (lv' := [(1, .int (Int32.ofInt x)), (0, .ref a)]) hx hb d rfl hl (by rw [hml]; exact hn) rfl (fun ls' h' => k H locs ls' hP hD hS (lv_sub h' [1, 0] rfl))
theorem cj_iload1 (C : cj_Cx X cc own nL n kc ks) {a : Nat} {x : Int} (d : decode cc pc = .ok (.iload_n 1, 1)) (k : cj_J X ce sl (pc + 1) [(0, .ref a), (1, .int (Int32.ofInt x))] (.int (Int32.ofInt x) :: st) ws) : cj_J X ce sl pc [(0, .ref a), (1, .int (Int32.ofInt x))] st ws := by
  obtain ⟨p, l, e0, R, s, m, args, below, meth, c, D, cA, A, Q⟩ := X
  obtain ⟨hx, hb, hml, hown, hts, hK, hA, hfr, hlo, hkc, hks, hNN⟩ := C
  intro H locs ls hP hD hS hl
  exact lv_iload_n hx hb d rfl (lv_at hl 1 rfl) (k H locs ls hP hD hS hl)
theorem cj_iinc1 (C : cj_Cx X cc own nL n kc ks) {a : Nat} {x y : Int} (d : decode cc pc = .ok (.iinc 1 1, 3)) (hn : 1 < nL) (hy : x + 1 = y) (k : cj_J X ce sl (pc + 3) [(0, .ref a), (1, .int (Int32.ofInt y))] st ws) : cj_J X ce sl pc [(0, .ref a), (1, .int (Int32.ofInt x))] st ws := by
  subst hy
  obtain ⟨p, l, e0, R, s, m, args, below, meth, c, D, cA, A, Q⟩ := X
  obtain ⟨hx, hb, hml, hown, hts, hK, hA, hfr, hlo, hkc, hks, hNN⟩ := C
  intro H locs ls hP hD hS hl
  exact lv_iinc (v := Int32.ofInt (x + 1)) (k := 1) (lv' := [(1, .int (Int32.ofInt (x + 1))), (0, .ref a)]) hx hb d hl rfl (Int32.ofInt_add x 1).symm (by rw [hml]; exact hn) rfl (fun ls' h' => k H locs ls' hP hD hS (lv_sub h' [1, 0] rfl))
theorem cj_ge_t (C : cj_Cx X cc own nL n kc ks) {x y : Int} {off : Int} {tgt : Nat} (d : decode cc pc = .ok (.if_icmp .ge off, 3)) (ht : (pc : Int) + off = (tgt : Int)) (rx : -2147483648 ≤ x ∧ x < 2147483648) (ry : -2147483648 ≤ y ∧ y < 2147483648) (h : y ≤ x) (k : cj_J X ce sl tgt lv st ws) : cj_J X ce sl pc lv (.int (Int32.ofInt y) :: .int (Int32.ofInt x) :: st) ws := by
  obtain ⟨p, l, e0, R, s, m, args, below, meth, c, D, cA, A, Q⟩ := X
  obtain ⟨hx, hb, hml, hown, hts, hK, hA, hfr, hlo, hkc, hks, hNN⟩ := C
  intro H locs ls hP hD hS hl
  exact lv_icmp_ge hx hb d ht (fun _ => k H locs ls hP hD hS hl) (fun q => absurd ((aj_le ry rx).mpr h) q)
theorem cj_ge_f (C : cj_Cx X cc own nL n kc ks) {x y : Int} {off : Int} {tgt : Nat} (d : decode cc pc = .ok (.if_icmp .ge off, 3)) (ht : (pc : Int) + off = (tgt : Int)) (rx : -2147483648 ≤ x ∧ x < 2147483648) (ry : -2147483648 ≤ y ∧ y < 2147483648) (h : x < y) (k : cj_J X ce sl (pc + 3) lv st ws) : cj_J X ce sl pc lv (.int (Int32.ofInt y) :: .int (Int32.ofInt x) :: st) ws := by
  obtain ⟨p, l, e0, R, s, m, args, below, meth, c, D, cA, A, Q⟩ := X
  obtain ⟨hx, hb, hml, hown, hts, hK, hA, hfr, hlo, hkc, hks, hNN⟩ := C
  intro H locs ls hP hD hS hl
  exact lv_icmp_ge hx hb d ht (fun q => absurd ((aj_le ry rx).mp q) (by omega)) (fun _ => k H locs ls hP hD hS hl)
theorem cj_goto (C : cj_Cx X cc own nL n kc ks) {off : Int} {tgt : Nat} (d : decode cc pc = .ok (.goto off, 3)) (ht : (pc : Int) + off = (tgt : Int)) (k : cj_J X ce sl tgt lv st ws) : cj_J X ce sl pc lv st ws := by
  obtain ⟨p, l, e0, R, s, m, args, below, meth, c, D, cA, A, Q⟩ := X
  obtain ⟨hx, hb, hml, hown, hts, hK, hA, hfr, hlo, hkc, hks, hNN⟩ := C
  intro H locs ls hP hD hS hl
  exact lv_goto hx hb d ht (k H locs ls hP hD hS hl)
theorem cj_newarr (C : cj_Cx X cc own nL n kc ks) {atype : ArrayType} {ty : FieldType} {e : Nat} {z : Int} {N : Nat} {a0 : (Nat → Int32) ⊕ (Nat → Int64) ⊕ (Nat → UInt32) ⊕ (Nat → UInt64) ⊕ (Nat → Option Nat)} (harr : Cond.arrayClass (newarray.typeOf atype) ∈ aj_TB) (hty : newarray.typeOf atype = ty) (hte : ∀ cA : Nat → ClassId, (cj_ty cA)[e]? = some (cA e, ty)) (hra : ∀ (U : State) (c1 c2 : ClassId), va_RA U c1 ty → va_RA U c2 ty → c1 = c2) (ha : ∀ cA : ClassId, vp_cell cA (N, a0) = arrV cA N (fun _ => defaultValue ty)) (hz : z = N) (hN : N < 100000) (hcb : componentBytes ty ≤ 8) (hc : ce + 1 ≤ kc) (hs : sl + N ≤ ks) (d : decode cc pc = .ok (.newarray atype, 2))
    (k : ∀ q : Nat, cj_J X (ce + 1) (sl + N) (pc + 2) lv (.ref q :: st) (ws ++ [(q, .inl (cj_cA X e, N, a0))])) : cj_J X ce sl pc lv (.int (Int32.ofInt z) :: st) ws := by
  obtain ⟨p, l, e0, R, s, m, args, below, meth, c, D, cA, A, Q⟩ := X
  obtain ⟨hx, hb, hml, hown, hts, hK, hA, hfr, hlo, hkc, hks, hNN⟩ := C
  intro H locs ls hP hD hS hl
  subst hz
  refine va_newa (a0 := (N, a0)) (N' := N) hx hb (hts _ harr) hty hK hP hD hS hA ha ?_ ?_ ?_ (by omega) (by omega) d (fun q c1 H1 hK1 hP1 hD1 hS1 => ?_)
  · intro q
    rw [aj_0, aj_lt (by omega) (by omega)] at q
    omega
  · rw [aj_cl (by omega)]
    rfl
  · exact Nat.le_trans (Nat.mul_le_mul (Nat.le_of_lt hN) hcb) (by decide)
  · have e1 : c1 = cA e := by
      have g1 := (hK1.2 7 (c1, ty) rfl).2
      have g2 := (hK.2 e (cA e, ty) (hte cA)).2
      exact hra s c1 (cA e) g1 g2
    subst e1
    exact k q H1 locs ls hP1 hD1 hS1 hl
theorem cj_back {p : Program} {l : Launch} {e : Env} {R : Room} {s : State} {m : MethodId} {args : Array Value} {below : List Frame} {meth : Method} {c : Code} {D : va_G} {cA : Nat → ClassId} {A : Nat → Prop} {Q : State → Prop} {H : Heap} {locs : List Loc} {ls : Array Slot} {st0 : List Value} {av : Array Value} {x : Nat × va_E} {b : cj_B} {k0 s0 : Nat}
    (hr : va_Run p l e R s m args below meth c H locs ce sl k0 s0 (F0 m pc ls st0) (.ref x.1 :: st) (cj_Q D cA b x.1 (va_A [x] H.size) av) (va_A [x] H.size)) (hP : va_P D vwCl (ws ++ [x]) H) (hD : va_D A (ws ++ [x])) (hS : va_S A s.heap H locs) (hA : ∀ q, s.heap.size ≤ q → A q) (hl : lv_has ls c.maxLocals lv) (k : ∀ ad : Nat → Nat, cj_J (p, l, e, R, s, m, args, below, meth, c, D, cA, A, Q) (ce + k0) (sl + s0) (pc + 3) lv (.ref (ad 0) :: st) (ws ++ b cA ad)) : W p l e R s m args below meth c H locs ce sl Q (F0 m pc ls st0) := by
  have hF : ∀ q, va_A [x] H.size q → A q := va_free (wc := [x]) hD hS hA [ws.length] (by simp)
  refine va_callv hr hS (fun q _ h => hF q h) hF (fun ad t H1 locs1 ht hvm had hB hz1 hk1 hS1 => ?_)
  obtain ⟨hP1, hD1⟩ := hB
  rw [ht] at hP1
  obtain ⟨hP2, hD2⟩ := cj_joinx hP hD hk1 hF hP1 hD1
  have had : ad 0 = x.1 := had
  rw [← had]
  exact k ad H1 locs1 ls hP2 hD2 hS1 hl
theorem cj_blind {D : va_G} {cA : Nat → ClassId} {a sz ci : Nat} {df : List Value} : FrameBlind (va_Pc [.ref a] (fun U => U.heap.size = sz ∧ va_P D vwCl (cj_x a ci df) U.heap ∧ va_K D vwCl (cj_ty cA) U ∧ va_D (fun _ => True) (cj_x a ci df) ∧ cj_N U)) := fun av U g mk q => by
  obtain ⟨q0, q1, qP, qK, qD, qN⟩ := q
  exact ⟨q0, q1, qP, va_K.moved (u := U) (U := U.calling g mk av) (Vm.Alike.refl U.vm) qK, qD, cj_N.same (u := U) (U := U.calling g mk av) rfl qN⟩
theorem cj_last {D : va_G} {ws : va_W} {x : Nat × va_E} {H : Heap} (hP : va_P D vwCl (ws ++ [x]) H) : va_P D vwCl [x] H := hP.sub (ws' := [x]) [ws.length] (by simp)
theorem cj_lastD {A : Nat → Prop} {ws : va_W} {x : Nat × va_E} (hD : va_D A (ws ++ [x])) : va_D (fun _ => True) [x] := (hD.sub (ws' := [x]) [ws.length] (by simp [va_nd]) (by simp)).weaken (fun _ _ _ _ => trivial)
/-- new, dup, and its constructor -/
theorem cj_newi (C : cj_Cx X cc own nL (n + 1) kc ks) {idx idx2 ci k0 s0 maxL : Nat} {y : MethodName} {bytes : ByteArray} {df : List Value} {b : cj_B} {Cn : String} {T : u_T} {ty0 : Nat → FieldType} (K : aj_CF ci Cn T ty0) (hcl : Cond.classLink own idx Cn ∈ aj_TB) (hinst : Cond.instantiable Cn (aj_N ci) ∈ aj_TB) (hini : Cond.initialized Cn ∈ aj_TB) (hdf : ∀ j, j < aj_N ci → defaultValue (ty0 j) = vp_V df j) (Kt : cj_Ct n y bytes maxL ci k0 s0 df b) (hml0 : maxL ≤ 41) (hy : y.cls = Cn ∧ y.name = "<init>" ∧ y.cls ≠ "java/lang/invoke/MethodHandle" ∧ y.cls ≠ "java/lang/invoke/VarHandle" ∧ (parseMethodDescriptor y.desc).map (fun d => d.parameters.length) = some 0) (hlink : Cond.methodLink own idx2 y ∈ aj_TB ∨ ∃ host, (own, idx2, y, host) ∈ cj_nest) (him : Cond.instanceMethod y ∈ aj_TB) (hcode : Cond.code y bytes maxL none ∈ aj_TB) (hst : (st.map fun v => v.category).sum ≤ 7)
    (hc : ce + 1 + k0 ≤ kc) (hs : sl + aj_N ci + s0 ≤ ks) (d1 : decode cc pc = .ok (.new idx, 3)) (d2 : decode cc (pc + 3) = .ok (.dup, 1)) (d3 : decode cc (pc + 4) = .ok (.invokespecial idx2, 3)) (k : ∀ ad : Nat → Nat, cj_J X (ce + 1 + k0) (sl + aj_N ci + s0) (pc + 7) lv (.ref (ad 0) :: st) (ws ++ b (cj_cA X) ad)) : cj_J X ce sl pc lv st ws := by
  obtain ⟨p, l, e0, R, s, m, args, below, meth, c, D, cA, A, Q⟩ := X
  obtain ⟨hx, hb, hml, hown, hts, hK, hA, hfr, hlo, hkc, hks, hNN⟩ := C
  intro H locs ls hP hD hS hl
  obtain ⟨hC, hw, hty, hnm, hkd⟩ := K
  obtain ⟨hy1, hy2, hy3, hy4, hy5⟩ := hy
  refine va_new (D := D) (ci := ci) (fs := df) hx hb hts hw ty0 hty hown (hts _ hcl) (hts _ hinst) (hts _ hini) hK hP hD hS hA hC hdf (by omega) (by omega) d1 (fun q H1 hP1 hD1 hS1 => ?_)
  refine lv_dup hx hb d2 rfl ?_
  have hini' : (Cond.initialized y.cls).before args s = true := by rw [hy1]; exact hts _ hini
  have hroom : n + 1 ≤ R.frames ∧ 8 + (maxL + 11) + 60 * n ≤ R.locals := ⟨hfr, by omega⟩
  have hsum : (((.ref q : Value) :: st).map fun v => v.category).sum ≤ 8 := by
    simp only [List.map_cons, List.sum_cons]
    have : (Value.ref q).category = 1 := rfl
    omega
  have hpre : PreS s H1 (va_Pc [.ref q] (fun U => U.heap.size = H1.size ∧ va_P D vwCl (cj_x q ci df) U.heap ∧ va_K D vwCl (cj_ty cA) U ∧ va_D (fun _ => True) (cj_x q ci df) ∧ cj_N U)) (.ref q :: []) := ⟨cj_blind, fun U hU hW => ⟨rfl, by rw [hU], by rw [hU]; exact cj_last hP1, va_K.moved hW.alike hK, cj_lastD hD1, hNN.warm hW⟩⟩
  rcases hlink with hlink | ⟨host, hlink⟩
  · have cb : CallB R s args own idx2 y bytes maxL none (.code y bytes maxL none :: aj_TB) { frames := n, cells := k0, slots := s0, locals := 60 * n } k0 s0 0 := callB_of 0 hts (aj_good hcode) rfl rfl rfl hini' (hts _ hlink) ⟨hy3, hy4, hy5⟩ hroom
    exact cj_back (x := (q, .inr (ci, df))) (va_runI (As := []) (rest := .ref q :: st) ⟨hx, hb, hml, hown, hts⟩ (Kt l D cA q H1.size) ⟨cb, hy2, hts _ him⟩ hpre rfl rfl (hl.1.trans hml) rfl (lv_room hsum) d3 ⟨by omega, by omega⟩) hP1 hD1 hS1 hA hl k
  · have hnw : va_Nw (.methodLinkNest own idx2 y host) s := hNN.1 _ hlink
    have cb : va_CN R s args own idx2 y host bytes maxL none (.code y bytes maxL none :: aj_TB) { frames := n, cells := k0, slots := s0, locals := 60 * n } k0 s0 0 := va_cnB 0 hts (aj_good hcode) rfl rfl rfl hnw hini' ⟨hy3, hy4, hy5⟩ hroom
    exact cj_back (x := (q, .inr (ci, df))) (va_runIN (As := []) (rest := .ref q :: st) ⟨hx, hb, hml, hown, hts⟩ (Kt l D cA q H1.size) ⟨cb, hy2, hts _ him⟩ hpre rfl rfl (hl.1.trans hml) rfl (lv_room hsum) d3 ⟨by omega, by omega⟩) hP1 hD1 hS1 hA hl k
theorem cj_ret (C : cj_Cx X cc own nL n kc ks) {b : cj_B} {a : Nat} {ad : Nat → Nat} (K : cj_Rt X b a kc ks) (had : ad 0 = a) (hw : ws = b (cj_cA X) ad) (hce : ce = kc) (hsl : sl = ks) (d : decode cc pc = .ok (.return_, 1)) : cj_J X ce sl pc lv [] ws := by
  subst hce
  subst hsl
  obtain ⟨p, l, e0, R, s, m, args, below, meth, c, D, cA, A, Q⟩ := X
  obtain ⟨hx, hb, hml, hown, hts, hK, hA, hfr, hlo, hkc, hks, hNN⟩ := C
  intro H locs ls hP hD hS hl
  obtain ⟨hlk, hr, hQe⟩ := K
  subst hQe
  subst hw
  exact W.vret hx hb hr (fun t ht hW => ⟨⟨ad, rfl, had, by rw [ht]; exact hP, hD⟩, hS.F ht⟩) hS.2.2 d hlk
end CJ
theorem cj_eq {X : cj_T} {ce sl pc : Nat} {lv : List (Nat × Value)} {st : List Value} {ws ws' : va_W} (h : ws = ws') (k : cj_J X ce sl pc lv st ws') : cj_J X ce sl pc lv st ws := h ▸ k
