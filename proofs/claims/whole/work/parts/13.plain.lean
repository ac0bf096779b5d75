/-! the reference's constructor: its call of plain -/
def pl_g : Nat → Int32 := fun k => if k = 5 then 1 else if k = 4 then 1 else if k = 2 then 1 else if k = 1 then 1 else 0
def pl_w (cA : Nat → ClassId) (a : Nat) (f : Nat → Int32) : va_W := [(a, .inl (cA 0, 3315, .inl f))]
theorem cj_aload0' {X : cj_T} {cc : ByteArray} {own : String} {nL n kc ks ce sl pc : Nat} {st : List Value} {ws : va_W} (C : cj_Cx X cc own nL n kc ks) {a : Nat} {x : Int32} (d : decode cc pc = .ok (.aload_n 0, 1)) (k : cj_J X ce sl (pc + 1) [(0, .ref a), (1, .int x)] (.ref a :: st) ws) : cj_J X ce sl pc [(0, .ref a), (1, .int x)] st ws := cj_aload0 C d rfl k
theorem pl_loop {X : cj_T} {n ce sl a : Nat} (C : cj_Cx X cX12_plain RX12 2 n 0 0) (out : cj_J X ce sl 19 [(0, .ref a), (1, .int (Int32.ofInt 1105))] [] (pl_w (cj_cA X) a (fun _ => 0))) : ∀ (k : Nat) (i : Int), 0 ≤ i → i + k = 1105 → cj_J X ce sl 2 [(0, .ref a), (1, .int (Int32.ofInt i))] [] (pl_w (cj_cA X) a (fun _ => 0)) := by
  intro k
  induction k with
  | zero =>
    intro i h0 h1
    have e : i = 1105 := by omega
    subst e
    refine cj_iload1 C dX12_plain_2 ?_
    refine cj_sipush (z := 1105) C dX12_plain_3 (by decide) ?_
    exact cj_ge_t (tgt := 19) C dX12_plain_6 (by decide) (by decide) (by decide) (by decide) out
  | succ k ih =>
    intro i h0 h1
    refine cj_iload1 C dX12_plain_2 ?_
    refine cj_sipush (z := 1105) C dX12_plain_3 (by decide) ?_
    refine cj_ge_f (tgt := 19) C dX12_plain_6 (by decide) (by omega) (by decide) (by omega) ?_
    refine cj_aload0' C dX12_plain_9 ?_
    refine cj_iload1 C dX12_plain_10 ?_
    refine cj_iconst (z := 0) C dX12_plain_11 ?_
    refine cj_iast (N := 3315) (ws' := pl_w (cj_cA X) a (fun _ => 0)) (g := fun _ => 0) C 0 rfl (by omega) (by decide) (by funext q; simp [upd]) rfl dX12_plain_12 ?_
    refine cj_iinc1 (y := i + 1) C dX12_plain_13 (by decide) rfl ?_
    refine cj_goto (tgt := 2) C dX12_plain_16 (by decide) ?_
    exact ih (i + 1) (by omega) (by omega)
set_option maxHeartbeats 4000000 in
theorem cj_plain {n : Nat} (l : Launch) (D : va_G) (cA : Nat → ClassId) (a sz : Nat) : Met l yX12_plain (.code yX12_plain cX12_plain 2 none :: aj_TB) { frames := n, cells := 0, slots := 0, locals := 60 * n } (va_Pc [.ref a] (fun U => U.heap.size = sz ∧ va_P D vwCl (pl_w cA a (fun _ => 0)) U.heap ∧ va_K D vwCl (cj_ty cA) U ∧ va_D (fun _ => True) (pl_w cA a (fun _ => 0)) ∧ cj_N U)) (va_Qv (fun _ : Unit => True) (fun _ t => va_P D vwCl (pl_w cA a pl_g) t.heap ∧ va_D (va_A (pl_w cA a (fun _ => 0)) sz) (pl_w cA a pl_g)) (va_A (pl_w cA a (fun _ => 0)) sz)) 0 0 (va_A (pl_w cA a (fun _ => 0)) sz) := by
  refine Met.ofW (cc := cX12_plain) (maxL := 2) (ret := none) (by decide) rfl ?_
  intro p e s m args below meth c s₁ B hml hv
  obtain ⟨rfl, hsz, hP, hK, hD, hN⟩ := hv
  have hts := atoms_spec (ws := .code yX12_plain cX12_plain 2 none :: aj_TB) B.pre
  have hown : s.vm.findClass yX12_plain.cls = some m.cls := findClass_of_methodNamed B.named
  subst hsz
  obtain ⟨X, hX⟩ : ∃ X : cj_T, X = (p, l, e, { frames := n, cells := 0, slots := 0, locals := 60 * n }, s, m, ([.ref a] : List Value).toArray, below, meth, c, D, cA, va_A (pl_w cA a (fun _ => 0)) s.heap.size, MQ below (va_Qv (fun _ : Unit => True) (fun _ t => va_P D vwCl (pl_w cA a pl_g) t.heap ∧ va_D (va_A (pl_w cA a (fun _ => 0)) s.heap.size) (pl_w cA a pl_g)) (va_A (pl_w cA a (fun _ => 0)) s.heap.size)) ([.ref a] : List Value).toArray s 0 0 (va_A (pl_w cA a (fun _ => 0)) s.heap.size)) := ⟨_, rfl⟩
  have C : cj_Cx X cX12_plain RX12 2 n 0 0 := by
    rw [hX]
    exact ⟨B.exec, B.bytes, hml, hown, fun w hw => hts w (List.mem_cons_of_mem _ hw), hK, fun q h => Or.inr h, Nat.le_refl _, Nat.le_refl _, Nat.le_refl _, Nat.le_refl _, hN⟩
  have hcA : cj_cA X = cA := by rw [hX]; rfl
  have fin : cj_J X 0 0 35 [(0, .ref a), (1, .int (Int32.ofInt 1105))] [] (pl_w (cj_cA X) a pl_g) := by
    rw [hcA, hX]
    intro H locs ls hP1 hD1 hS1 hl1
    exact W.vret B.exec B.bytes B.returns (fun t ht hW => ⟨⟨(), rfl, trivial, by rw [ht]; exact hP1, hD1⟩, hS1.F ht⟩) hS1.2.2 dX12_plain_35 B.notSynchronized
  have tail : cj_J X 0 0 19 [(0, .ref a), (1, .int (Int32.ofInt 1105))] [] (pl_w (cj_cA X) a (fun _ => 0)) := by
    refine cj_aload0' C dX12_plain_19 ?_
    refine cj_iconst (z := 1) C dX12_plain_20 ?_
    refine cj_iconst (z := 1) C dX12_plain_21 ?_
    refine cj_iast (N := 3315) (ws' := pl_w (cj_cA X) a (fun k => if k = 1 then 1 else 0)) (g := fun k => if k = 1 then 1 else 0) C 0 rfl (by decide) (by decide) (by funext q; simp [upd]) rfl dX12_plain_22 ?_
    refine cj_aload0' C dX12_plain_23 ?_
    refine cj_iconst (z := 2) C dX12_plain_24 ?_
    refine cj_iconst (z := 1) C dX12_plain_25 ?_
    refine cj_iast (N := 3315) (ws' := pl_w (cj_cA X) a (fun k => if k = 2 then 1 else if k = 1 then 1 else 0)) (g := fun k => if k = 2 then 1 else if k = 1 then 1 else 0) C 0 rfl (by decide) (by decide) (by funext q; simp [upd]) rfl dX12_plain_26 ?_
    refine cj_aload0' C dX12_plain_27 ?_
    refine cj_iconst (z := 4) C dX12_plain_28 ?_
    refine cj_iconst (z := 1) C dX12_plain_29 ?_
    refine cj_iast (N := 3315) (ws' := pl_w (cj_cA X) a (fun k => if k = 4 then 1 else if k = 2 then 1 else if k = 1 then 1 else 0)) (g := fun k => if k = 4 then 1 else if k = 2 then 1 else if k = 1 then 1 else 0) C 0 rfl (by decide) (by decide) (by funext q; simp [upd]) rfl dX12_plain_30 ?_
    refine cj_aload0' C dX12_plain_31 ?_
    refine cj_iconst (z := 5) C dX12_plain_32 ?_
    refine cj_iconst (z := 1) C dX12_plain_33 ?_
    refine cj_iast (N := 3315) (ws' := pl_w (cj_cA X) a pl_g) (g := pl_g) C 0 rfl (by decide) (by decide) (by funext q; simp [upd, pl_g]) rfl dX12_plain_34 ?_
    exact fin
  have J : cj_J X 0 0 0 [(0, .ref a)] [] (pl_w (cj_cA X) a (fun _ => 0)) := by
    refine cj_iconst (z := 0) C dX12_plain_0 ?_
    refine cj_istore1 (a := a) (x := 0) C dX12_plain_1 (by decide) (Or.inl rfl) ?_
    exact pl_loop C tail 1105 0 (by decide) (by decide)
  have he := lv_entry [.ref a] (n := 2) (Nat.le_of_ble_eq_true rfl)
  rw [lg_entry_eq]
  rw [hcA, hX] at J
  exact J s.heap [] _ hP (hD.self (sz := s.heap.size)) va_S.rf (by rw [hml]; exact he)
theorem cj_rng2 {α : Type} (x y : α) (R : List α) : (0 :: (List.range R.length).map (· + 2)).map (fun i => (x :: y :: R)[i]?) = (x :: R).map some := by
  rw [List.map_cons, List.map_cons, List.map_map]
  congr 1
  apply List.ext_getElem?
  intro i
  rw [List.getElem?_map, List.getElem?_map]
  by_cases h : i < R.length
  · rw [List.getElem?_range h, List.getElem?_eq_getElem h]
    show some ((x :: y :: R)[i + 2]?) = some (some R[i])
    rw [List.getElem?_cons_succ, List.getElem?_cons_succ, List.getElem?_eq_getElem h]
  · rw [List.getElem?_eq_none (by simpa using h), List.getElem?_eq_none (by simpa using h)]
    rfl
theorem cj_nd2 (n : Nat) : (0 :: (List.range n).map (· + 2)).Nodup := by
  refine List.nodup_cons.mpr ⟨fun h => ?_, ?_⟩
  · obtain ⟨k, -, hk⟩ := List.mem_map.mp h
    omega
  · exact List.Pairwise.map _ (fun a b (h : a ≠ b) => by simpa using h) List.nodup_range
/-- the call of plain: the second cell comes to the end -/
theorem cj_callP {X : cj_T} {cc : ByteArray} {nL n kc ks ce sl pc : Nat} {lv : List (Nat × Value)} {st : List Value} (C : cj_Cx X cc RX12 nL (n + 1) kc ks) {q : Nat} {x : Nat × va_E} {Rw : va_W} (hst : (st.map fun v => v.category).sum ≤ 8) (hce : ce ≤ kc) (hsl : sl ≤ ks) (d : decode cc pc = .ok (.invokestatic 88, 3)) (k : cj_J X ce sl (pc + 3) lv st ((x :: Rw) ++ pl_w (cj_cA X) q pl_g)) : cj_J X ce sl pc lv (.ref q :: st) (x :: (q, .inl (cj_cA X 0, 3315, .inl (fun _ => 0))) :: Rw) := by
  obtain ⟨p, l, e0, R, s, m, args, below, meth, c, D, cA, A, Q⟩ := X
  obtain ⟨hx, hb, hml, hown, hts, hK, hA, hfr, hlo, hkc, hks, hNN⟩ := C
  intro H locs ls hP hD hS hl
  obtain ⟨⟨m1, m2, m3, m4, m5⟩, m6⟩ := msX12_88
  have cb : CallB R s args RX12 88 yX12_plain cX12_plain 2 none (.code yX12_plain cX12_plain 2 none :: aj_TB) { frames := n, cells := 0, slots := 0, locals := 60 * n } 0 0 1 := callB_of 1 hts (aj_good m3) rfl rfl rfl (hts _ m2) (hts _ m1) ⟨m4.1, m4.2, by decide +kernel⟩ ⟨by show n + 1 ≤ R.frames; exact hfr, by show 8 + (2 + 11) + 60 * n ≤ R.locals; omega⟩
  have hPc : va_P D vwCl (pl_w cA q (fun _ => 0)) H := hP.sub (ws' := pl_w cA q (fun _ => 0)) [1] rfl
  have hDc : va_D A (pl_w cA q (fun _ => 0)) := hD.sub (ws' := pl_w cA q (fun _ => 0)) [1] (by decide) rfl
  have hF := va_free (wc := pl_w cA q (fun _ => 0)) hD hS hA [1] rfl
  have hbl : FrameBlind (va_Pc [.ref q] (fun U => U.heap.size = H.size ∧ va_P D vwCl (pl_w cA q (fun _ => 0)) U.heap ∧ va_K D vwCl (cj_ty cA) U ∧ va_D (fun _ => True) (pl_w cA q (fun _ => 0)) ∧ cj_N U)) := fun av U g mk z => by
    obtain ⟨q0, q1, qP, qK, qD, qN⟩ := z
    exact ⟨q0, q1, qP, va_K.moved (u := U) (U := U.calling g mk av) (Vm.Alike.refl U.vm) qK, qD, cj_N.same (u := U) (U := U.calling g mk av) rfl qN⟩
  have hrun := va_runS (As := [.ref q]) (rest := st) (g := F0 m pc ls (.ref q :: st)) (H := H) (locs := locs) (cells := ce) (slots := sl) (e := e0) (below := below) (meth := meth) ⟨hx, hb, hml, hown, hts⟩ (cj_plain (n := n) l D cA q H.size) ⟨cb, hts _ m6⟩ ⟨hbl, fun U hU hW => ⟨rfl, by rw [hU], by rw [hU]; exact hPc, va_K.moved hW.alike hK, hDc.weaken (fun _ _ _ _ => trivial), hNN.warm hW⟩⟩ rfl rfl (hl.1.trans hml) rfl (lv_room hst) d ⟨by omega, by omega⟩
  refine va_callv hrun hS (fun z _ h => hF z h) hF (fun u t H1 locs1 ht hvm hw hB hz1 hk1 hS1 => ?_)
  obtain ⟨hP1, hD1⟩ := hB
  rw [ht] at hP1
  obtain ⟨hP2, hD2⟩ := va_join (wr := x :: Rw) (wc := pl_w cA q (fun _ => 0)) hP hD [1] (0 :: (List.range Rw.length).map (· + 2)) rfl (cj_rng2 _ _ _) (cj_nd1 _ (cj_nd2 _)) (fun i hi h => by
    have h2 := List.mem_singleton.mp h
    rcases List.mem_cons.mp hi with h3 | h3
    · omega
    · obtain ⟨j, -, hj⟩ := List.mem_map.mp h3
      omega) hk1 hF hP1 hD1
  exact k H1 locs1 ls hP2 hD2 hS1 hl
