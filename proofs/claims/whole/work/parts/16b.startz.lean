def st_L : List Cond := flatC (Cond.and given_1 narrow_1)
def st_tm (i : Nat) : Term := match i with
  | 0 => .string "CageLift$Reader" 208
  | 1 => .string "CageLift$Reader" 201
  | _ => .string "CageLiftModel" 98
def st_Z (adK adV : Nat → Nat) (ax : Nat) (A : Nat → Prop) (U : State) : Prop := vk_S 3 aj_slen aj_sbyt adK adV A U U.heap ∧ vk_R "CageLift$Reader" 208 "works cyclic mirrors product quaternions twist places arc half by keeps weighs if then else end from to member not and or" (adK 0) U ∧ vk_R "CageLift$Reader" 201 ";:+-*()[]=<>" (adK 1) U ∧ vk_R "CageLiftModel" 98 " works cyclic mirrors product quaternions twist places arc by half keeps weighs if then else end from to member and or not " (adK 2) U ∧ vk_R "CageLiftModel" 136 ";:+-*()[]=<>" (adK 1) U ∧ va_Z "java/lang/String" "COMPACT_STRINGS" "Z" (.int 1) A U U.heap ∧ va_Zq "jdk/internal/util/Preconditions" "SIOOBE_FORMATTER" "Ljava/util/function/BiFunction;" A U U.heap ∧ va_Z "CageLift$Group" "AXES" "[I" (.ref ax) A U U.heap ∧ va_T .int ax 16 (fun j => .int (Int32.ofInt (aj_axv j))) A U U.heap
set_option maxHeartbeats 4000000 in
set_option maxRecDepth 100000 in
theorem st_Zs {s : State} {args : Array Value} (hts : ∀ w ∈ lw_tbl, w.before args s = true) (hg : (Cond.and given_1 narrow_1).before args s = true) : ∃ (adK adV : Nat → Nat) (ax : Nat), st_Z adK adV ax (fun q => s.heap.size ≤ q) s := by
  have hs : ∀ c ∈ st_L, c.before args s = true := flat_of_before _ hg
  have hA : ∀ a : Nat, a < s.heap.size → ¬ (fun q : Nat => s.heap.size ≤ q) a := fun a h => Nat.not_le.mpr h
  obtain ⟨adK, adV, hS, hev⟩ := vk_Sof (N := 3) (tm := st_tm) (len := aj_slen) (byt := aj_sbyt) (A := fun q => s.heap.size ≤ q) (args := args) (s := s)
    (fun i hi => by
      match i, hi with
      | 0, _ => exact (by decide)
      | 1, _ => exact (by decide)
      | 2, _ => exact (by decide))
    (fun i hi => by
      match i, hi with
      | 0, _ => exact hs _ (List.mem_of_getElem? (i := 67) (by decide +kernel))
      | 1, _ => exact hs _ (List.mem_of_getElem? (i := 192) (by decide +kernel))
      | 2, _ => exact hs _ (List.mem_of_getElem? (i := 209) (by decide +kernel)))
    (fun i hi => by
      match i, hi with
      | 0, _ => exact hs _ (List.mem_of_getElem? (i := 68) (by decide +kernel))
      | 1, _ => exact hs _ (List.mem_of_getElem? (i := 193) (by decide +kernel))
      | 2, _ => exact hs _ (List.mem_of_getElem? (i := 210) (by decide +kernel)))
    (fun i hi => by
      match i, hi with
      | 0, _ => exact hs _ (List.mem_of_getElem? (i := 69) (by decide +kernel))
      | 1, _ => exact hs _ (List.mem_of_getElem? (i := 194) (by decide +kernel))
      | 2, _ => exact hs _ (List.mem_of_getElem? (i := 211) (by decide +kernel)))
    (fun i hi => by
      match i, hi with
      | 0, _ => exact hs _ (List.mem_of_getElem? (i := 70) (by decide +kernel))
      | 1, _ => exact hs _ (List.mem_of_getElem? (i := 195) (by decide +kernel))
      | 2, _ => exact hs _ (List.mem_of_getElem? (i := 212) (by decide +kernel)))
    (fun i hi => by
      match i, hi with
      | 0, _ => exact fun j hj => hs _ (va_run (L := st_L) (N := 121) (p := 71) (f := fun j => Cond.eq (.elem (.field (.string "CageLift$Reader" 208) "java/lang/String" "value" "[B") (.int (Int32.ofNat j))) (.int ((aj_sbyt.getD 0 []).getD j 0))) (by decide +kernel) j hj)
      | 1, _ => exact fun j hj => hs _ (va_run (L := st_L) (N := 12) (p := 196) (f := fun j => Cond.eq (.elem (.field (.string "CageLift$Reader" 201) "java/lang/String" "value" "[B") (.int (Int32.ofNat j))) (.int ((aj_sbyt.getD 1 []).getD j 0))) (by decide +kernel) j hj)
      | 2, _ => exact fun j hj => hs _ (va_run (L := st_L) (N := 123) (p := 213) (f := fun j => Cond.eq (.elem (.field (.string "CageLiftModel" 98) "java/lang/String" "value" "[B") (.int (Int32.ofNat j))) (.int ((aj_sbyt.getD 2 []).getD j 0))) (by decide +kernel) j hj))
    (fun i j hi hj hij => by
      match i, j, hi, hj, hij with
      | 0, 1, _, _, _ => exact Or.inl (hs _ (List.mem_of_getElem? (i := 208) (by decide +kernel)))
      | 0, 2, _, _, _ => exact Or.inl (hs _ (List.mem_of_getElem? (i := 336) (by decide +kernel)))
      | 1, 0, _, _, _ => exact Or.inr (hs _ (List.mem_of_getElem? (i := 208) (by decide +kernel)))
      | 1, 2, _, _, _ => exact Or.inl (hs _ (List.mem_of_getElem? (i := 337) (by decide +kernel)))
      | 2, 0, _, _, _ => exact Or.inr (hs _ (List.mem_of_getElem? (i := 336) (by decide +kernel)))
      | 2, 1, _, _, _ => exact Or.inr (hs _ (List.mem_of_getElem? (i := 337) (by decide +kernel)))
      | 0, 0, _, _, h => exact absurd rfl h
      | 1, 1, _, _, h => exact absurd rfl h
      | 2, 2, _, _, h => exact absurd rfl h) hA
  obtain ⟨ax, hax, hT⟩ := va_Tof (tm := .static "CageLift$Group" "AXES" "[I") (ty := .int) (N := 16) (f := fun j => .int (Int32.ofInt (aj_axv j))) (A := fun q => s.heap.size ≤ q) (by decide) (hs _ (List.mem_of_getElem? (i := 10) (by decide +kernel))) (va_eqt (hs _ (List.mem_of_getElem? (i := 11) (by decide +kernel)))) (fun j hj => va_eqt (hs _ (va_run (L := st_L) (N := 16) (p := 12) (f := fun j => Cond.eq (.elem (.static "CageLift$Group" "AXES" "[I") (.int (Int32.ofNat j))) (.int (Int32.ofInt (aj_axv j)))) (by decide +kernel) j hj))) hA
  have e0 := hev 0 (by decide)
  have e1 := hev 1 (by decide)
  have e2 := hev 2 (by decide)
  refine ⟨adK, adV, ax, hS, vk_R.of (hts _ (aj_t3 (List.mem_of_getElem? (i := 50) (by decide +kernel)))) e0, vk_R.of (hts _ (aj_t3 (List.mem_of_getElem? (i := 99) (by decide +kernel)))) e1, vk_R.of (hts _ (aj_t7 (List.mem_of_getElem? (i := 136) (by decide +kernel)))) e2, vk_R.of (hts _ (aj_t7 (List.mem_of_getElem? (i := 142) (by decide +kernel)))) (va_eqR (hs _ (List.mem_of_getElem? (i := 355) (by decide +kernel))) e1), va_Zof (hts _ (aj_t3 (List.mem_of_getElem? (i := 60) (by decide +kernel)))) (hts _ (aj_t1 (List.mem_of_getElem? (i := 15) (by decide +kernel)))) (va_eqi (hs _ (List.mem_of_getElem? (i := 4) (by decide +kernel)))) hA, va_Zqof (hts _ (aj_t3 (List.mem_of_getElem? (i := 76) (by decide +kernel)))) (hts _ (aj_t1 (List.mem_of_getElem? (i := 17) (by decide +kernel)))) (hs _ (List.mem_of_getElem? (i := 5) (by decide +kernel))) hA, va_Zof (hts _ (aj_t3 (List.mem_of_getElem? (i := 182) (by decide +kernel)))) (hts _ (aj_t1 (List.mem_of_getElem? (i := 4) (by decide +kernel)))) hax hA, hT⟩
