set_option maxRecDepth 20000 in
theorem wd152 : Cond.classLink "CageLiftLaw" 7 "CageLift" ∈ aj_TB := aj_memL (aj_t1 (List.mem_of_getElem? (i := 23) (by decide +kernel))) (by decide +kernel)
set_option maxRecDepth 20000 in
theorem wd1487 : Cond.classLink "CageLiftLaw" 10 "CageLiftModel" ∈ aj_TB := aj_memL (aj_t6 (List.mem_of_getElem? (i := 158) (by decide +kernel))) (by decide +kernel)
set_option maxRecDepth 20000 in
theorem wd154 : Cond.methodLink "CageLiftLaw" 9 ⟨"CageLift", "<init>", "()V"⟩ ∈ aj_TB := aj_memL (aj_t1 (List.mem_of_getElem? (i := 25) (by decide +kernel))) (by decide +kernel)
set_option maxRecDepth 20000 in
theorem wd1489 : Cond.methodLink "CageLiftLaw" 12 ⟨"CageLiftModel", "<init>", "()V"⟩ ∈ aj_TB := aj_memL (aj_t6 (List.mem_of_getElem? (i := 160) (by decide +kernel))) (by decide +kernel)
set_option maxRecDepth 20000 in
theorem wd155 : Cond.instanceMethod ⟨"CageLift", "<init>", "()V"⟩ ∈ aj_TB := aj_memL (aj_t1 (List.mem_of_getElem? (i := 26) (by decide +kernel))) (by decide +kernel)
set_option maxRecDepth 20000 in
theorem wd1490 : Cond.instanceMethod ⟨"CageLiftModel", "<init>", "()V"⟩ ∈ aj_TB := aj_memL (aj_t6 (List.mem_of_getElem? (i := 161) (by decide +kernel))) (by decide +kernel)
set_option maxRecDepth 20000 in
theorem wd156 : Cond.code ⟨"CageLift", "<init>", "()V"⟩ prog_1_method_1_code 2 (Option.none : Option FieldType) ∈ aj_TB := aj_memL (aj_t1 (List.mem_of_getElem? (i := 27) (by decide +kernel))) (by decide +kernel)
set_option maxRecDepth 20000 in
theorem wd1491 : Cond.code ⟨"CageLiftModel", "<init>", "()V"⟩ prog_14_method_3_code 1 (Option.none : Option FieldType) ∈ aj_TB := aj_memL (aj_t6 (List.mem_of_getElem? (i := 162) (by decide +kernel))) (by decide +kernel)
theorem cj_astA {X : cj_T} {cc : ByteArray} {own : String} {nL n kc ks ce sl pc b q : Nat} {st : List Value} {ws : va_W} (C : cj_Cx X cc own nL n kc ks) (hn : 1 < nL) (d : decode cc pc = .ok (.astore_n 1, 1)) (k : cj_J X ce sl (pc + 1) [(0, .ref b), (1, .ref q)] st ws) : cj_J X ce sl pc [(0, .ref b)] (.ref q :: st) ws := by
  obtain ⟨p, l, e0, R, s, m, args, below, meth, c, D, cA, A, Q⟩ := X
  obtain ⟨hx, hb, hml, hown, hts, hK, hA, hfr, hlo, hkc, hks, hNN⟩ := C
  intro H locs ls hP hD hS hl
  exact lv_astore_n (lv' := [(1, .ref q), (0, .ref b)]) hx hb d rfl hl (by rw [hml]; exact hn) rfl (fun ls' h' => k H locs ls' hP hD hS (lv_sub h' [1, 0] rfl))
theorem cj_astB {X : cj_T} {cc : ByteArray} {own : String} {nL n kc ks ce sl pc b q r : Nat} {st : List Value} {ws : va_W} (C : cj_Cx X cc own nL n kc ks) (hn : 2 < nL) (d : decode cc pc = .ok (.astore_n 2, 1)) (k : cj_J X ce sl (pc + 1) [(0, .ref b), (1, .ref q), (2, .ref r)] st ws) : cj_J X ce sl pc [(0, .ref b), (1, .ref q)] (.ref r :: st) ws := by
  obtain ⟨p, l, e0, R, s, m, args, below, meth, c, D, cA, A, Q⟩ := X
  obtain ⟨hx, hb, hml, hown, hts, hK, hA, hfr, hlo, hkc, hks, hNN⟩ := C
  intro H locs ls hP hD hS hl
  exact lv_astore_n (lv' := [(2, .ref r), (0, .ref b), (1, .ref q)]) hx hb d rfl hl (by rw [hml]; exact hn) rfl (fun ls' h' => k H locs ls' hP hD hS (lv_sub h' [1, 2, 0] rfl))
theorem cj_istC {X : cj_T} {cc : ByteArray} {own : String} {nL n kc ks ce sl pc b q r : Nat} {x : Int} {st : List Value} {ws : va_W} (C : cj_Cx X cc own nL n kc ks) (hn : 3 < nL) (d : decode cc pc = .ok (.istore_n 3, 1)) (k : cj_J X ce sl (pc + 1) [(0, .ref b), (1, .ref q), (2, .ref r), (3, .int (Int32.ofInt x))] st ws) : cj_J X ce sl pc [(0, .ref b), (1, .ref q), (2, .ref r)] (.int (Int32.ofInt x) :: st) ws := by
  obtain ⟨p, l, e0, R, s, m, args, below, meth, c, D, cA, A, Q⟩ := X
  obtain ⟨hx, hb, hml, hown, hts, hK, hA, hfr, hlo, hkc, hks, hNN⟩ := C
  intro H locs ls hP hD hS hl
  exact lv_istore_n (lv' := [(3, .int (Int32.ofInt x)), (0, .ref b), (1, .ref q), (2, .ref r)]) hx hb d rfl hl (by rw [hml]; exact hn) rfl (fun ls' h' => k H locs ls' hP hD hS (lv_sub h' [1, 2, 3, 0] rfl))
theorem vk_S_as {N : Nat} {len : List Nat} {byt : List (List Int32)} {adK adV aK aV : Nat → Nat} {A : Nat → Prop} {U : State} {H : Heap} (e1 : ∀ i, i < N → adK i = aK i) (e2 : ∀ i, i < N → adV i = aV i) (h : vk_S N len byt adK adV A U H) : vk_S N len byt aK aV A U H :=
  ⟨fun i hi => by rw [← e1 i hi, ← e2 i hi]; exact h.1 i hi, fun i j hi hj e => h.2 i j hi hj (by rw [e1 i hi, e1 j hj]; exact e)⟩
theorem st_Zaj {D : va_G} {cA : Nat → ClassId} {adX adM adK adV : Nat → Nat} {ax b : Nat} {A : Nat → Prop} {s : State} (h : st_Z adK adV ax A s) (hAB : ∀ q, aj_A (st_E D cA adX adM adK adV ax b) q → A q) : aj_Z (st_E D cA adX adM adK adV ax b) s := by
  obtain ⟨h1, h2, h3, h4, h5, h6, h7, h8, h9⟩ := h
  refine ⟨vk_S_as (fun i hi => ?_) (fun i hi => ?_) (h1.narrow hAB), h2, h3, h4, h5, h6.narrow hAB, h7.narrow hAB, h8.narrow hAB, h9.narrow hAB⟩
  · match i, hi with
    | 0, _ => rfl
    | 1, _ => rfl
    | 2, _ => rfl
  · match i, hi with
    | 0, _ => rfl
    | 1, _ => rfl
    | 2, _ => rfl
theorem in_X : (.inl (11, [0]) : aj_R) ∈ aj_pls := aj_in_of (by decide +kernel)
theorem in_M : (.inl (12, [1]) : aj_R) ∈ aj_pls := aj_in_of (by decide +kernel)
set_option maxHeartbeats 4000000 in
set_option maxRecDepth 100000 in
/-- THE CLAIM'S WALK out of the pure claim (open: hp is what is wanting) -/
theorem whole_start_open {p : Program} {e : Env} {s : State} {m : MethodId} {below : List Frame} {meth : Method} {c : Code} (l : Launch) {b L : Nat} {xs : Nat → Int32} (hL : L ≤ 3072) (C0 : lw_At p s m meth c b L xs) (hp : ∃ f, hL_law_18 f (fun _ => True) xs f L [300] [0] [1] 0 st_m0) : W p l e room_1 s m #[Value.ref b] below meth c s.heap [] 0 0 (lw_Z below #[Value.ref b] s) (entryFrame m ([Value.ref b] : List Value).toArray 4) := by
  obtain ⟨f, hp⟩ := hp
  obtain ⟨hx, hb, hr, hml, hown, hts, hX, hbl, hlocks, hgv⟩ := C0
  obtain ⟨D, cA, hK⟩ := st_K hts
  obtain ⟨adK, adV, ax, hZ⟩ := st_Zs hts hgv
  have hN := st_N hts
  have hTB : ∀ w ∈ aj_TB, w.before #[Value.ref b] s = true := fun w hw => hts w (List.mem_filter.mp hw).1
  obtain ⟨X, hXe⟩ : ∃ X : cj_T, X = (p, l, e, room_1, s, m, #[Value.ref b], below, meth, c, D, cA, (fun q : Nat => s.heap.size ≤ q), lw_Z below #[Value.ref b] s) := ⟨_, rfl⟩
  have C : cj_Cx X code RL 4 1000 156 27260 := by
    rw [hXe]
    exact ⟨hx, hb, hml, hown, hTB, hK, fun q h => h, by decide, by decide, by decide, by decide, hN⟩
  have J18 : ∀ adX adM : Nat → Nat, cj_J X (0 + 1 + 131 + 1 + 23) (0 + 13 + 16361 + 47 + 10839) 18 [(0, .ref b), (1, .ref (adX 0)), (2, .ref (adM 0)), (3, .int (Int32.ofInt 0))] [] (([] ++ bX11 (cj_cA X) adX) ++ bX12 (cj_cA X) adM) := by
    intro adX adM
    rw [hXe]
    intro H locs ls hP hD hS hl
    have hP : va_P D vwCl (bX11 cA adX ++ bX12 cA adM) H := hP
    have hD : va_D (fun q : Nat => s.heap.size ≤ q) (bX11 cA adX ++ bX12 cA adM) := hD
    have hPX : va_P D vwCl (bX11 cA adX) H := fun k q hk => hP k q (by rw [List.getElem?_append_left (List.getElem?_eq_some_iff.mp hk).1]; exact hk)
    have hPM : va_P D vwCl (bX12 cA adM) H := fun k q hk => hP ((bX11 cA adX).length + k) q (by rw [List.getElem?_append_right (Nat.le_add_right _ _), Nat.add_sub_cancel_left]; exact hk)
    have hA := st_A D cA adX adM adK adV ax b hD
    obtain ⟨X', hX'⟩ : ∃ X' : aj_T, X' = (p, l, e, room_1, s, m, #[Value.ref b], below, meth, c, st_E D cA adX adM adK adV ax b, (fun q : Nat => s.heap.size ≤ q), 0 + 1 + 131 + 1 + 23, 0 + 13 + 16361 + 47 + 10839, lw_Z below #[Value.ref b] s) := ⟨_, rfl⟩
    have C' : aj_Cx X' code RL 4 (919 + 81) := by
      rw [hX']
      exact ⟨hx, hb, hml, hown, hTB, hK, st_D D cA adX adM adK adV ax b hD, hA, ⟨st_Zaj hZ hA, fun q h1 h2 => absurd h1 (Nat.not_lt.mpr h2)⟩, by decide, by decide, by decide, by decide⟩
    have K' : lj_K X' := by
      rw [hX']
      exact ⟨b, hlocks, hr, rfl, rfl, rfl, by decide, by decide, rfl⟩
    have HS : lj_S X' L [300] xs := by
      rw [hX']
      exact ⟨hX, hbl, Nat.not_le.mpr hbl⟩
    have J := tL_law_18 C' K' f L [300] [0] [1] 0 st_m0 HS (by omega) in_X in_M hp
    rw [hX'] at J
    refine J H locs ls (st_P D cA adX adM adK adV ax b hPX hPM) hS ⟨hl.1, hl.2.1, fun i v hi => ?_⟩
    match i, hi with
    | 0, hi => cases hi; exact lv_at hl 0 rfl
    | 1, hi => cases hi; exact lv_at hl 1 rfl
    | 2, hi => cases hi; exact lv_at hl 2 rfl
    | 3, hi => cases hi; exact lv_at hl 3 rfl
    | i + 4, hi => simp at hi
  have J0 : cj_J X 0 0 0 [(0, .ref b)] [] [] := by
    refine cj_newi C cfX11 wd152 wd153 wd130 (by decide) (kX11_init) (by decide) (by decide +kernel) (Or.inl wd154) wd155 wd156 (Nat.le_of_ble_eq_true rfl) (by decide) (by decide) dL_law_0 dL_law_3 dL_law_4 (fun adX => ?_)
    refine cj_astA C (by decide) dL_law_7 ?_
    refine cj_newi C cfX12 wd1487 wd1488 wd142 (by decide) (kX12_init) (by decide) (by decide +kernel) (Or.inl wd1489) wd1490 wd1491 (Nat.le_of_ble_eq_true rfl) (by decide) (by decide) dL_law_8 dL_law_11 dL_law_12 (fun adM => ?_)
    refine cj_astB C (by decide) dL_law_15 ?_
    refine cj_iconst (z := 0) C dL_law_16 ?_
    refine cj_istC C (by decide) dL_law_17 ?_
    exact J18 adX adM
  have he := lv_entry [.ref b] (n := 4) (Nat.le_of_ble_eq_true rfl)
  rw [lg_entry_eq]
  rw [hXe] at J0
  exact J0 s.heap [] _ (fun k q h => by simp at h) ⟨fun i j p q h => by simp at h, fun k q h => by simp at h⟩ va_S.rf (by rw [hml]; exact he)
