/-! THE CLAIM OUT OF ONE WALK OF THE LAW'S BODY. Your part is whole_start (and what it stands on); all else here is the same for every law, but numbers. -/
def R_law : String := "CageLiftLaw"
def lw_P (b : Addr) (xs : List Int32) (args : Array Value) (s : State) : Prop := args = #[.ref b] ∧ s.IntsAt b xs ∧ xs.length ≤ 3072 ∧ (Jvm.Cond.and given_1 narrow_1).before args s = true
def lw_Q (_ : Array Value) (s : State) (o : Outcome) (t : State) : Prop := o = .returned (some (.int 1)) ∧ Framed s o t [] 600000 7302250
def lw_Z (below : List Frame) (a : Array Value) (s : State) : State → Prop := fun t => ∃ o, t.status = .running ∧ Ended t below o ∧ lw_Q a s o t
/-- the law's own end, with 1 on the stack, nothing written that was there before, its room as the claim has it -/
theorem lw_ret {p : Program} {l : Launch} {e : Env} {s : State} {m : MethodId} {below : List Frame} {meth : Method} {c : Code} {b : Nat} (hx : p.tables.exec = Jvm.exec) (hb : c.code = code) (hr : meth.sig.returnType = ret) (hlocks : meth.locks = false) {pc : Nat} {H : Heap} {ls : Array Slot} (hdg : decode code pc = .ok (.ireturn, 1)) : W p l e room_1 s m #[Value.ref b] below meth c H [] 600000 7302250 (lw_Z below #[Value.ref b] s) (F0 m pc ls [.int 1]) := by
  intro T hT X
  obtain ⟨fs, hret, hrun, hended, hW, hframe⟩ := X.leave (v := some (.int 1)) (hlocks := hlocks) (fun h => by rw [hr] at h; cases h)
  have hmeth' : T.vm.method? m = some meth := X.method'
  refine ⟨T.setFrames fs, ?_, .returned (some (.int 1)), hrun, hended, rfl, ⟨_, rfl⟩, hW, hframe⟩
  jvm_step X.here [X.here.top, hx, hb, hdg, hmeth', hr, ret, narrow_b1]
  (try refine ⟨rfl, ?_⟩); (try refine ⟨rfl, ?_⟩)
  first | (intro acts; rw [hret _ acts rfl rfl rfl]) | rw [hret _ _ rfl rfl rfl]
  exact Steps.refl _
/-- what holds at the law's entry: the machine, the code, the tables' words (any of lw_tbl by 'hts w (by decide +kernel)'), the script of L ints xs at the cell b, what the Statement gives of the start (any of its parts by flat_of_before) -/
def lw_At (p : Program) (s : State) (m : MethodId) (meth : Method) (c : Code) (b L : Nat) (xs : Nat → Int32) : Prop :=
  p.tables.exec = Jvm.exec ∧ c.code = code ∧ meth.sig.returnType = ret ∧ c.maxLocals = 4 ∧ s.vm.findClass R_law = some m.cls ∧ (∀ w ∈ lw_tbl, w.before #[Value.ref b] s = true) ∧ va_X b L xs s s.heap ∧ b < s.heap.size ∧ meth.locks = false ∧ (Jvm.Cond.and given_1 narrow_1).before #[Value.ref b] s = true

/-- the law's script, as a row that nobody writes -/
def lj_S (X : aj_T) (b : Nat) (a : List Nat) (xs : Nat → Int32) : Prop := match X with
  | (p, l, e, R, s, m, args, below, meth, c, E, A, ce, sl, Q) => va_X (E.2.1 a) b xs s s.heap ∧ E.2.1 a < s.heap.size ∧ ¬ A (E.2.1 a)
def lj_K (X : aj_T) : Prop := match X with
  | (p, l, e, R, s, m, args, below, meth, c, E, A, ce, sl, Q) => ∃ b : Nat, meth.locks = false ∧ meth.sig.returnType = ret ∧ A = (fun q : Nat => s.heap.size ≤ q) ∧ R = room_1 ∧ args = #[Value.ref b] ∧ ce ≤ 600000 ∧ sl ≤ 7302250 ∧ Q = lw_Z below #[Value.ref b] s
section LJ
variable {X : aj_T} {cc : ByteArray} {own : String} {nL n pc : Nat} {lv : List (Option aj_V)} {st : List aj_V} {mem : aj_M} {a : List Nat} {b : Nat} {xs : Nat → Int32}
theorem lj_sld (C : aj_Cx X cc own nL n) (hs : lj_S X b a xs) {i : Int} (hb2 : b < 2147483648) (hi : 0 ≤ i ∧ i < (b : Int)) (d : decode cc pc = .ok (.iaload, 1)) (k : aj_J X (pc + 1) lv (vI (xs i.toNat).toInt :: st) mem) : aj_J X pc lv (vI i :: vA 10 b a :: st) mem := by
  obtain ⟨p, l, e, R, s, m, args, below, meth, c, E, A, ce, sl, Q⟩ := X
  obtain ⟨hx, hb, hml, hown, hts, hK, hD, hA, hZ, hfr, hlo, hce, hsl⟩ := C
  intro H locs ls hP hS hl
  obtain ⟨h1, h2, h3⟩ := hs
  refine va_sld hx hb h1 h2 h3 hS (aj_in hi hb2) d ?_
  rw [aj_cl (by omega)]
  have k' := k H locs ls hP hS hl
  rw [List.map_cons, show aj_c E (vI (xs i.toNat).toInt) = .int (xs i.toNat) from congrArg _ (Int32.ofInt_toInt _)] at k'
  exact k'
theorem lj_slen (C : aj_Cx X cc own nL n) (hs : lj_S X b a xs) (d : decode cc pc = .ok (.arraylength, 1)) (k : aj_J X (pc + 1) lv (vI (b : Int) :: st) mem) : aj_J X pc lv (vA 10 b a :: st) mem := by
  obtain ⟨p, l, e, R, s, m, args, below, meth, c, E, A, ce, sl, Q⟩ := X
  obtain ⟨hx, hb, hml, hown, hts, hK, hD, hA, hZ, hfr, hlo, hce, hsl⟩ := C
  intro H locs ls hP hS hl
  obtain ⟨h1, h2, h3⟩ := hs
  refine va_slen hx hb h1 h2 h3 hS d ?_
  have k' := k H locs ls hP hS hl
  rw [List.map_cons, show aj_c E (vI (b : Int)) = .int (Int32.ofNat b) from congrArg _ Int32.ofInt_eq_ofNat] at k'
  exact k'
theorem lj_ret (C : aj_Cx X code own nL n) (K : lj_K X) (d : decode code pc = .ok (.ireturn, 1)) : aj_J X pc lv [vI 1] mem := by
  obtain ⟨p, l, e, R, s, m, args, below, meth, c, E, A, ce, sl, Q⟩ := X
  obtain ⟨hx, hb, hml, hown, hts, hK, hD, hA, hZ, hfr, hlo, hce, hsl⟩ := C
  obtain ⟨b, k1, k2, k3, k4, k5, k6, k7, k8⟩ := K
  subst k3
  subst k4
  subst k5
  subst k8
  intro H locs ls hP hS hl
  refine va_forget (fun q hq => hS.2.2 q hq) ?_
  refine W.widen (k := 600000) (n := 7302250) k6 k7 ?_
  exact lw_ret hx hb k2 k1 d
end LJ
