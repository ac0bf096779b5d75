set_option maxRecDepth 20000 in
theorem wd153 : Cond.instantiable "CageLift" 13 ∈ aj_TB := aj_memL (aj_t1 (List.mem_of_getElem? (i := 24) (by decide +kernel))) (by decide +kernel)
set_option maxRecDepth 20000 in
theorem wd1488 : Cond.instantiable "CageLiftModel" 47 ∈ aj_TB := aj_memL (aj_t6 (List.mem_of_getElem? (i := 159) (by decide +kernel))) (by decide +kernel)
set_option maxRecDepth 20000 in
theorem nw0 : Cond.methodLinkNest "CageLift" 11 ⟨"CageLift$Reader", "<init>", "()V"⟩ "CageLift" ∈ lw_tbl := aj_t1 (List.mem_of_getElem? (i := 33) (by decide +kernel))
set_option maxRecDepth 20000 in
theorem nw1 : Cond.methodLinkNest "CageLift$Reader" 24 ⟨"CageLift$Plan", "<init>", "()V"⟩ "CageLift" ∈ lw_tbl := aj_t1 (List.mem_of_getElem? (i := 39) (by decide +kernel))
set_option maxRecDepth 20000 in
theorem nw2 : Cond.methodLinkNest "CageLift$Plan" 20 ⟨"CageLift$Laws", "<init>", "()V"⟩ "CageLift" ∈ lw_tbl := aj_t1 (List.mem_of_getElem? (i := 74) (by decide +kernel))
set_option maxRecDepth 20000 in
theorem nw3 : Cond.methodLinkNest "CageLift" 18 ⟨"CageLift$Plan", "<init>", "()V"⟩ "CageLift" ∈ lw_tbl := aj_t1 (List.mem_of_getElem? (i := 207) (by decide +kernel))
set_option maxRecDepth 20000 in
theorem nw4 : Cond.methodLinkNest "CageLift" 25 ⟨"CageLift$Setting", "<init>", "()V"⟩ "CageLift" ∈ lw_tbl := aj_t1 (List.mem_of_getElem? (i := 210) (by decide +kernel))
set_option maxRecDepth 20000 in
theorem nw5 : Cond.methodLinkNest "CageLift$History" 24 ⟨"CageLift$Setting", "<init>", "()V"⟩ "CageLift" ∈ lw_tbl := aj_t1 (List.mem_of_getElem? (i := 237) (by decide +kernel))
set_option maxRecDepth 20000 in
theorem nw6 : Cond.methodLinkNest "CageLift" 57 ⟨"CageLift$Rings", "<init>", "()V"⟩ "CageLift" ∈ lw_tbl := aj_t2 (List.mem_of_getElem? (i := 15) (by decide +kernel))
set_option maxRecDepth 20000 in
theorem nw7 : Cond.methodLinkNest "CageLift$Rings" 25 ⟨"CageLift$Network", "<init>", "()V"⟩ "CageLift" ∈ lw_tbl := aj_t2 (List.mem_of_getElem? (i := 21) (by decide +kernel))
set_option maxRecDepth 20000 in
theorem nw8 : Cond.methodLinkNest "CageLift" 64 ⟨"CageLift$Network", "<init>", "()V"⟩ "CageLift" ∈ lw_tbl := aj_t2 (List.mem_of_getElem? (i := 125) (by decide +kernel))
set_option maxRecDepth 20000 in
theorem nw9 : Cond.methodLinkNest "CageLift" 71 ⟨"CageLift$Hunt", "<init>", "()V"⟩ "CageLift" ∈ lw_tbl := aj_t2 (List.mem_of_getElem? (i := 128) (by decide +kernel))
set_option maxRecDepth 20000 in
theorem nw10 : Cond.methodLinkNest "CageLift" 84 ⟨"CageLift$Image", "<init>", "()V"⟩ "CageLift" ∈ lw_tbl := aj_t2 (List.mem_of_getElem? (i := 162) (by decide +kernel))
set_option maxRecDepth 20000 in
theorem nw11 : Cond.methodLinkNest "CageLift$Image" 9 ⟨"CageLift$Plan", "<init>", "()V"⟩ "CageLift" ∈ lw_tbl := aj_t2 (List.mem_of_getElem? (i := 167) (by decide +kernel))
set_option maxRecDepth 20000 in
theorem nw12 : Cond.methodLinkNest "CageLift$Image" 18 ⟨"CageLift$Setting", "<init>", "()V"⟩ "CageLift" ∈ lw_tbl := aj_t2 (List.mem_of_getElem? (i := 169) (by decide +kernel))
set_option maxRecDepth 20000 in
theorem nw13 : Cond.methodLinkNest "CageLift" 85 ⟨"CageLift$Tray", "<init>", "()V"⟩ "CageLift" ∈ lw_tbl := aj_t2 (List.mem_of_getElem? (i := 182) (by decide +kernel))
set_option maxRecDepth 20000 in
theorem ow0 : Cond.arrayOver (FieldType.object "CageLift$Setting") ∈ lw_tbl := aj_t1 (List.mem_of_getElem? (i := 236) (by decide +kernel))
set_option maxRecDepth 20000 in
theorem ow1 : Cond.arrayOver (FieldType.object "CageLift$Image") ∈ lw_tbl := aj_t2 (List.mem_of_getElem? (i := 10) (by decide +kernel))
set_option maxRecDepth 20000 in
theorem ow2 : Cond.arrayOver (FieldType.object "CageLift$Tray") ∈ lw_tbl := aj_t2 (List.mem_of_getElem? (i := 12) (by decide +kernel))
set_option maxRecDepth 20000 in
theorem st_N {s : State} {args : Array Value} (hts : ∀ w ∈ lw_tbl, w.before args s = true) : cj_N s := by
  refine ⟨?_, va_AO.of (hts _ ow0), va_AO.of (hts _ ow1), va_AO.of (hts _ ow2)⟩
  show ∀ q ∈ cj_nest, _
  exact List.forall_mem_cons.mpr ⟨va_Nw.of rfl (hts _ nw0), List.forall_mem_cons.mpr ⟨va_Nw.of rfl (hts _ nw1), List.forall_mem_cons.mpr ⟨va_Nw.of rfl (hts _ nw2), List.forall_mem_cons.mpr ⟨va_Nw.of rfl (hts _ nw3), List.forall_mem_cons.mpr ⟨va_Nw.of rfl (hts _ nw4), List.forall_mem_cons.mpr ⟨va_Nw.of rfl (hts _ nw5), List.forall_mem_cons.mpr ⟨va_Nw.of rfl (hts _ nw6), List.forall_mem_cons.mpr ⟨va_Nw.of rfl (hts _ nw7), List.forall_mem_cons.mpr ⟨va_Nw.of rfl (hts _ nw8), List.forall_mem_cons.mpr ⟨va_Nw.of rfl (hts _ nw9), List.forall_mem_cons.mpr ⟨va_Nw.of rfl (hts _ nw10), List.forall_mem_cons.mpr ⟨va_Nw.of rfl (hts _ nw11), List.forall_mem_cons.mpr ⟨va_Nw.of rfl (hts _ nw12), List.forall_mem_cons.mpr ⟨va_Nw.of rfl (hts _ nw13), fun _ h => absurd h List.not_mem_nil⟩⟩⟩⟩⟩⟩⟩⟩⟩⟩⟩⟩⟩⟩
set_option maxRecDepth 20000 in
theorem st_Kc {s : State} {args : Array Value} (hb : ∀ w ∈ aj_TB, w.before args s = true) : ∃ D : va_G, ∀ (k : Nat) (q : vw_C), vwCl[k]? = some q → u_Kn s q.1 q.2.1 q.2.2 (D.1 k) (D.2 k) := by
  have h : ∀ (k : Nat) (q : vw_C), vwCl[k]? = some q → ∃ (cC : ClassId) (iS : Nat → Nat), u_Kn s q.1 q.2.1 q.2.2 cC iS := by
    intro k q hq
    match k, hq with
    | 0, hq => cases hq; exact u_known hb cfX0.2.1 (hb _ wd173)
    | 1, hq => cases hq; exact u_known hb cfX1.2.1 (hb _ wd359)
    | 2, hq => cases hq; exact u_known hb cfX2.2.1 (hb _ wd496)
    | 3, hq => cases hq; exact u_known hb cfX3.2.1 (hb _ wd530)
    | 4, hq => cases hq; exact u_known hb cfX4.2.1 (hb _ wd202)
    | 5, hq => cases hq; exact u_known hb cfX5.2.1 (hb _ wd389)
    | 6, hq => cases hq; exact u_known hb cfX6.2.1 (hb _ wd167)
    | 7, hq => cases hq; exact u_known hb cfX7.2.1 (hb _ wd161)
    | 8, hq => cases hq; exact u_known hb cfX8.2.1 (hb _ wd383)
    | 9, hq => cases hq; exact u_known hb cfX9.2.1 (hb _ wd338)
    | 10, hq => cases hq; exact u_known hb cfX10.2.1 (hb _ wd550)
    | 11, hq => cases hq; exact u_known hb cfX11.2.1 (hb _ wd153)
    | 12, hq => cases hq; exact u_known hb cfX12.2.1 (hb _ wd1488)
    | k + 13, hq => simp [vwCl] at hq
  have h2 : ∀ k : Nat, ∃ p : ClassId × (Nat → Nat), ∀ q : vw_C, vwCl[k]? = some q → u_Kn s q.1 q.2.1 q.2.2 p.1 p.2 := by
    intro k
    cases hk : vwCl[k]? with
    | none => exact ⟨(0, fun _ => 0), fun q hq => by cases hq⟩
    | some q =>
      obtain ⟨cC, iS, hu⟩ := h k q hk
      exact ⟨(cC, iS), fun q' hq' => by cases hq'; exact hu⟩
  exact ⟨(fun k => (Classical.choose (h2 k)).1, fun k => (Classical.choose (h2 k)).2), fun k q hq => Classical.choose_spec (h2 k) q hq⟩
set_option maxRecDepth 20000 in
theorem st_K {s : State} {args : Array Value} (hts : ∀ w ∈ lw_tbl, w.before args s = true) : ∃ (D : va_G) (cA : Nat → ClassId), va_K D vwCl (cj_ty cA) s := by
  have hb : ∀ w ∈ aj_TB, w.before args s = true := fun w hw => hts w (List.mem_filter.mp hw).1
  obtain ⟨D, hD⟩ := st_Kc hb
  obtain ⟨c0, k0, p0, a1, a2, a3⟩ := Cond.arrayClass_spec (hb _ wd200)
  obtain ⟨c1, k1, p1, b1, b2, b3⟩ := Cond.arrayClass_spec (hb _ wd1638)
  obtain ⟨c2, k2, p2, d1, d2, d3⟩ := Cond.arrayClass_spec (hb _ wd199)
  obtain ⟨c3, k3, p3, e1, e2, e3⟩ := Cond.arrayClass_spec (hb _ wd567)
  obtain ⟨q4, c4, k4, f1, f2, f3, f4, f5⟩ := Cond.arrayOver_spec (hts _ ow0)
  obtain ⟨q5, c5, k5, g1, g2, g3, g4, g5⟩ := Cond.arrayOver_spec (hts _ ow1)
  obtain ⟨q6, c6, k6, i1, i2, i3, i4, i5⟩ := Cond.arrayOver_spec (hts _ ow2)
  refine ⟨D, fun e => if e = 0 then c0 else if e = 1 then c1 else if e = 2 then c2 else if e = 3 then c3 else if e = 4 then c4 else if e = 5 then c5 else c6, hD, ?_⟩
  intro k q hq
  match k, hq with
  | 0, hq => cases hq; exact ⟨fun n z => ⟨fun k h => (by cases h), k0, a2, p0, a3⟩, a1⟩
  | 1, hq => cases hq; exact ⟨fun n z => ⟨fun k h => (by cases h), k1, b2, p1, b3⟩, b1⟩
  | 2, hq => cases hq; exact ⟨fun n z => ⟨fun k h => (by cases h), k2, d2, p2, d3⟩, d1⟩
  | 3, hq => cases hq; exact ⟨fun n z => ⟨fun k h => (by cases h), k3, e2, p3, e3⟩, e1⟩
  | 4, hq => cases hq; exact ⟨fun n z => ⟨fun k h => (by cases h), k4, f3, q4, f4⟩, k4, q4, f3, f4, f1, f5⟩
  | 5, hq => cases hq; exact ⟨fun n z => ⟨fun k h => (by cases h), k5, g3, q5, g4⟩, k5, q5, g3, g4, g1, g5⟩
  | 6, hq => cases hq; exact ⟨fun n z => ⟨fun k h => (by cases h), k6, i3, q6, i4⟩, k6, q6, i3, i4, i1, i5⟩
  | k + 7, hq => simp [cj_ty] at hq
