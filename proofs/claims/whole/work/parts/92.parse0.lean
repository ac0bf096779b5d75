/-! READING A WORKS: pictures of both readers, and their smallest steps -/
def kOK (k : Int) : Prop := (0 ≤ k ∧ k ≤ 25) ∨ (30 ≤ k ∧ k ≤ 41)
theorem cT_inj {x y : Int} (hx : kOK x) (hy : kOK y) : cT x = cT y ↔ x = y := by
  constructor
  · intro h
    unfold kOK at hx hy
    obtain ⟨i, rfl⟩ : ∃ i : Nat, x = i := ⟨x.toNat, by omega⟩
    obtain ⟨j, rfl⟩ : ∃ j : Nat, y = j := ⟨y.toNat, by omega⟩
    have q : (List.range 42).all (fun i => (List.range 42).all (fun j => decide (26 ≤ i ∧ i ≤ 29 ∨ 26 ≤ j ∧ j ≤ 29 ∨ (cT (i : Int) = cT (j : Int) → i = j)))) = true := by decide +kernel
    rw [List.all_eq_true] at q
    have q1 := q i (List.mem_range.mpr (by omega))
    rw [List.all_eq_true] at q1
    have q2 := of_decide_eq_true (q1 j (List.mem_range.mpr (by omega)))
    rcases q2 with a | a | a
    · omega
    · omega
    · rw [a h]
  · rintro rfl
    rfl
theorem tkK_ok {T : Nat → Int} {n b : Nat} : kOK (tkK T n b) := tkK_b
theorem cT_r {k : Int} (h : kOK k) : 0 ≤ cT k ∧ cT k ≤ 221 := by
  unfold kOK at h
  obtain ⟨i, rfl⟩ : ∃ i : Nat, k = i := ⟨k.toNat, by omega⟩
  have q : (List.range 42).all (fun i => decide (0 ≤ cT (i : Int) ∧ cT (i : Int) ≤ 221)) = true := by decide +kernel
  rw [List.all_eq_true] at q
  exact of_decide_eq_true (q i (List.mem_range.mpr (by omega)))
def tkF (T : Nat → Int) (n b : Nat) (x : Int) : Int := if tkK T n b = 25 then 1 else x
def pcC (m : aj_M) (T : Nat → Int) (n b : Nat) (c : List Int) : Prop :=
  tkC (m [0, 0]) T n b ∧ m [0, 0] 2 = n ∧ (m [0, 0] 9 = 0 ∧ m [0, 0] 10 = -1) ∧ (∀ j, j < n → m [0, 0, 0] j = zSb (T j)) ∧ m [1, 3, 0, 0] 1 = c.length ∧ (∀ i, i < c.length → m [0, 1, 3, 0, 0] i = zenc (c.getD i 0))
def pcF (m m' : aj_M) : Prop := zo [[0, 0], [1, 3, 0, 0], [0, 1, 3, 0, 0]] m m' ∧ (∀ j, j < 5 ∨ 10 < j → m' [0, 0] j = m [0, 0] j) ∧ (∀ j, j ≠ 1 → m' [1, 3, 0, 0] j = m [1, 3, 0, 0] j)
def pcX (m : aj_M) (k a : Int) : Prop := m [0, 0] 9 = k ∧ m [0, 0] 10 = a
def prR (m : aj_M) (T : Nat → Int) (n b : Nat) (c : List Int) : Prop :=
  tkR (m [1]) T n b ∧ m [1] 8 = n ∧ m [1] 11 = 0 ∧ (∀ j, j < n → m [3, 1] j = T j) ∧ m [4, 1] 204 = c.length ∧ (∀ i, i < c.length → m [4, 1] (205 + i) = c.getD i 0)
def prF (m m' : aj_M) : Prop := zo [[1], [4, 1]] m m' ∧ (∀ j, j < 6 ∨ j = 8 ∨ 12 < j → m' [1] j = m [1] j) ∧ (∀ j, j < 204 → m' [4, 1] j = m [4, 1] j)
def prX (m : aj_M) (k a : Int) : Prop := m [1] 11 = k ∧ m [1] 12 = a
def prD (m : aj_M) : Prop := rI (m [1] 11) ∧ m [1] 11 ≠ 0
theorem pcF_r {m : aj_M} : pcF m m := ⟨fun _ _ => rfl, fun _ _ => rfl, fun _ _ => rfl⟩
theorem pcF_t {m m1 m2 : aj_M} (h : pcF m m1) (k : pcF m1 m2) : pcF m m2 := ⟨zo_t h.1 k.1, fun j hj => (k.2.1 j hj).trans (h.2.1 j hj), fun j hj => (k.2.2 j hj).trans (h.2.2 j hj)⟩
theorem prF_r {m : aj_M} : prF m m := ⟨fun _ _ => rfl, fun _ _ => rfl, fun _ _ => rfl⟩
theorem prF_t {m m1 m2 : aj_M} (h : prF m m1) (k : prF m1 m2) : prF m m2 := ⟨zo_t h.1 k.1, fun j hj => (k.2.1 j hj).trans (h.2.1 j hj), fun j hj => (k.2.2 j hj).trans (h.2.2 j hj)⟩
theorem prX_D {m : aj_M} {k a : Int} (h : prX m k a) (hk : 1 ≤ k ∧ k ≤ 4) : prD m := by
  unfold prD
  rw [h.1]
  exact ⟨⟨by omega, by omega⟩, by omega⟩
def tpOK (f : Nat) (T : Nat → Int) (n : Nat) : Prop := 2000 ≤ f ∧ (∀ j, 0 ≤ T j ∧ T j < 256) ∧ n ≤ 900
section PRS
variable {f n b : Nat} {T : Nat → Int} {c : List Int} {m : aj_M}
/-! the class -/
theorem pc_7 (h : pcC m T n b c) : m [0, 0] 7 = cT (tkK T n b) := h.1.2.2.1
theorem pc_is (h : pcC m T n b c) {k v : Int} (hk : kOK k) (hv : cT k = v) : m [0, 0] 7 = v ↔ tkK T n b = k := by
  rw [pc_7 h, ← hv]
  exact cT_inj tkK_ok hk
theorem pc_r7 (h : pcC m T n b c) : rI (m [0, 0] 7) := by
  have := cT_r (tkK_ok (T := T) (n := n) (b := b))
  rw [pc_7 h]
  exact ⟨by omega, by omega⟩
theorem pc_step {Φ : aj_M → Prop} (O : tpOK f T n) (hb : b ≤ n) (h : pcC m T n b c) (hK : ∀ m', pcF m m' → pcC m' T n (tkE T n b) c → Φ m') : wX7_step f Φ [0, 0] m := by
  obtain ⟨h1, h2, h3, h4, h5, h6⟩ := h
  have hE := tkE_b (T := T) hb
  refine pX7_stepR (by have := O.1; omega) O.2.1 O.2.2 (b := tkE T n b) (by omega) h4 h2 h1.2.1 (fun R r1 r2 => ?_)
  refine hK _ ⟨fun p hp => zm_uro (fun e => hp (by rw [e]; simp)), fun j hj => ?_, fun j _ => by rw [zm_uro (by decide)]⟩ ⟨by rw [zm_urs]; exact r2, ?_, ⟨?_, ?_⟩, fun j hj => ?_, ?_, fun i hi => ?_⟩
  · rw [zm_urs]; exact r1 j (by omega)
  · rw [zm_urs, r1 2 (by omega)]; exact h2
  · rw [zm_urs, r1 9 (by omega)]; exact h3.1
  · rw [zm_urs, r1 10 (by omega)]; exact h3.2
  · rw [zm_uro (by decide)]; exact h4 j hj
  · rw [zm_uro (by decide)]; exact h5
  · rw [zm_uro (by decide)]; exact h6 i hi
theorem pc_add {Φ : aj_M → Prop} {kd nu cd : Int} (hc : c.length < 900) (hcd : nu * 16 + kd = zenc cd) (h : pcC m T n b c) (hK : ∀ m', pcF m m' → pcC m' T n b (c ++ [cd]) → Φ m') : wX4_add f Φ [1, 3, 0, 0] kd nu m := by
  obtain ⟨h1, h2, h3, h4, h5, h6⟩ := h
  unfold wX4_add
  rw [h5]
  refine ⟨⟨by omega, by omega⟩, fun x => by omega, fun _ => ⟨⟨by omega, by omega⟩, ?_⟩⟩
  rintro _ rfl
  rintro _ rfl
  rw [zu_off (by decide), h5, Int.toNat_natCast, hcd]
  have o1 : ∀ p, p ≠ [1, 3, 0, 0] → p ≠ [0, 1, 3, 0, 0] → aj_u (aj_u m [0, 1, 3, 0, 0] c.length (zenc cd)) [1, 3, 0, 0] 1 ((c.length : Int) + 1) p = m p := fun p a1 a2 => by rw [zu_off a1, zu_off a2]
  refine hK _ ⟨fun p hp => ?_, fun j _ => by rw [o1 _ (by decide) (by decide)], fun j hj => by rw [zu_tup, tup_o hj, zu_off (by decide)]⟩ ⟨by rw [o1 _ (by decide) (by decide)]; exact h1, by rw [o1 _ (by decide) (by decide)]; exact h2, by rw [o1 _ (by decide) (by decide)]; exact h3, fun j hj => by rw [o1 _ (by decide) (by decide)]; exact h4 j hj, ?_, fun i hi => ?_⟩
  · simp only [List.mem_cons, List.not_mem_nil, or_false, not_or] at hp
    exact o1 p hp.2.1 hp.2.2
  · rw [zu_tup, tup_s, List.length_append, List.length_singleton]
    omega
  · rw [List.length_append, List.length_singleton] at hi
    rw [zu_off (by decide), zu_tup]
    by_cases e : i = c.length
    · subst e
      rw [tup_s, List.getD_eq_getElem?_getD, List.getElem?_append_right (Nat.le_refl _), Nat.sub_self]
      rfl
    · rw [tup_o e, h6 i (by omega), List.getD_eq_getElem?_getD, List.getD_eq_getElem?_getD, List.getElem?_append_left (by omega)]
theorem pc_faulty {Φ : Int → aj_M → Prop} {x : Int} (h : pcC m T n b c) (hK : ∀ m', pcF m m' → pcX m' x (tkA T n b) → Φ 0 m') : wX7_faulty f Φ [0, 0] x m := by
  unfold wX7_faulty
  rintro _ rfl
  rintro _ rfl
  rw [zu_tup, tup_o (by omega), h.1.1]
  refine hK _ ⟨fun p hp => ?_, fun j hj => ?_, fun j _ => by rw [zu_off (by decide), zu_off (by decide)]⟩ ⟨?_, ?_⟩
  · have : p ≠ [0, 0] := fun e => hp (by rw [e]; simp)
    rw [zu_off this, zu_off this]
  · rw [zu_tup, tup_o (by omega), zu_tup, tup_o (by omega)]
  · rw [zu_tup, tup_o (by omega), zu_tup, tup_s]
  · rw [zu_tup, tup_s]
theorem pc_cant {Φ : Int → aj_M → Prop} (h : pcC m T n b c) (hK : ∀ m', pcF m m' → pcX m' (tkF T n b 2) (tkA T n b) → Φ 0 m') : wX7_cantStand f Φ [0, 0] m := by
  have e := pc_is h (k := 25) (v := 0) (Or.inl (by omega)) (by decide)
  refine ⟨pc_r7 h, fun x => pc_faulty h (fun m' f1 f2 => ⟨Or.inl rfl, hK m' f1 ?_⟩), fun x => pc_faulty h (fun m' f1 f2 => ⟨Or.inl rfl, hK m' f1 ?_⟩)⟩
  · rw [tkF, if_neg (fun y => x (e.mpr y))]
    exact f2
  · rw [tkF, if_pos (e.mp x)]
    exact f2
theorem pc_take {Φ : Int → aj_M → Prop} {k v : Int} (O : tpOK f T n) (hb : b ≤ n) (h : pcC m T n b c) (hk : kOK k) (hv : cT k = v) (h1 : tkK T n b = k → ∀ m', pcF m m' → pcC m' T n (tkE T n b) c → Φ 1 m') (h0 : tkK T n b ≠ k → ∀ m', pcF m m' → pcX m' (tkF T n b 2) (tkA T n b) → Φ 0 m') : wX7_take f Φ [0, 0] v m := by
  have e := pc_is h hk hv
  have hr := cT_r hk
  refine ⟨pc_r7 h, by rw [← hv]; exact ⟨by omega, by omega⟩, fun x => pc_step O hb h (h1 (e.mp x)), fun x => pc_cant h (fun m' f1 f2 => ⟨Or.inl rfl, h0 (fun y => x (e.mpr y)) m' f1 f2⟩)⟩
theorem pc_num {Φ : Int → aj_M → Prop} {lo hi : Int} (O : tpOK f T n) (hb : b ≤ n) (h : pcC m T n b c) (hlo : rI lo) (hhi : rI hi) (h1 : tkK T n b = 23 → lo ≤ tkN T n b → tkN T n b ≤ hi → ∀ m', pcF m m' → pcC m' T n (tkE T n b) c → Φ (tkN T n b) m') (h3 : tkK T n b = 23 → ¬ (lo ≤ tkN T n b ∧ tkN T n b ≤ hi) → ∀ m', pcF m m' → pcX m' 3 (tkA T n b) → Φ (-1) m') (h0 : tkK T n b ≠ 23 → ∀ m', pcF m m' → pcX m' (tkF T n b 2) (tkA T n b) → Φ (-1) m') : wX7_takeNumber f Φ [0, 0] lo hi m := by
  have e := pc_is h (k := 23) (v := 2) (Or.inl (by omega)) (by decide)
  refine ⟨pc_r7 h, fun x => ?_, fun x => pc_cant h (h0 (fun y => x (e.mpr y)))⟩
  have e23 := e.mp x
  have hN := tkN_b e23
  rw [h.1.2.2.2 e23]
  refine ⟨⟨by omega, by omega⟩, hlo, fun y => pc_faulty h (h3 e23 (by omega)), fun y => ⟨⟨by omega, by omega⟩, hhi, fun z => pc_step O hb h (h1 e23 (by omega) (by omega)), fun z => pc_faulty h (h3 e23 (by omega))⟩⟩
/-! the reference -/
theorem pr_next {Φ : aj_M → Prop} (O : tpOK f T n) (hb : b ≤ n) (h : prR m T n b c) (hK : ∀ m', prF m m' → prR m' T n (tkE T n b) c → Φ m') : wX12_next f Φ [1] m := by
  obtain ⟨h1, h2, h3, h4, h5, h6⟩ := h
  have hE := tkE_b (T := T) hb
  refine pX12_nextR (by have := O.1; omega) O.2.1 O.2.2 (b := tkE T n b) (by omega) h4 h2 h1.2.1 (fun R r1 r2 => ?_)
  refine hK _ ⟨fun p hp => zm_uro (fun e => hp (by rw [e]; simp)), fun j hj => ?_, fun j _ => by rw [zm_uro (by decide)]⟩ ⟨by rw [zm_urs]; exact r2, ?_, ?_, fun j hj => ?_, ?_, fun i hi => ?_⟩
  · rw [zm_urs]; exact r1 j (by omega) (by omega) (by omega) (by omega)
  · rw [zm_urs, r1 8 (by omega) (by omega) (by omega) (by omega)]; exact h2
  · rw [zm_urs, r1 11 (by omega) (by omega) (by omega) (by omega)]; exact h3
  · rw [zm_uro (by decide)]; exact h4 j hj
  · rw [zm_uro (by decide)]; exact h5
  · rw [zm_uro (by decide)]; exact h6 i hi
theorem pr_r9 (h : prR m T n b c) : rI (m [1] 9) := by
  have := tkK_b (T := T) (n := n) (b := b)
  rw [h.1.2.2.1]
  exact ⟨by omega, by omega⟩
theorem pr_is {Φ : Int → aj_M → Prop} {k : Int} (h : prR m T n b c) (hk : kOK k) (h1 : tkK T n b = k → Φ 1 m) (h0 : tkK T n b ≠ k → Φ 0 m) : wX12_is f Φ [1] k m := by
  unfold kOK at hk
  unfold wX12_is
  rw [h.2.2.1, h.1.2.2.1]
  have := tkK_b (T := T) (n := n) (b := b)
  exact ⟨by decide, fun x => absurd rfl x, fun _ => ⟨⟨by omega, by omega⟩, ⟨by omega, by omega⟩, fun x => h0 x, fun x => h1 x⟩⟩
theorem pr_isD {Φ : Int → aj_M → Prop} {k : Int} (h : prD m) (h0 : Φ 0 m) : wX12_is f Φ [1] k m := ⟨h.1, fun _ => h0, fun x => absurd x h.2⟩
theorem pr_fails {Φ : aj_M → Prop} {x : Int} (h : prR m T n b c) (hK : ∀ m', prF m m' → prX m' (tkF T n b x) (tkA T n b) → Φ m') : wX12_fails f Φ [1] x m := by
  have go : ∀ y : Int, y = tkF T n b x → ∀ m1, m1 = aj_u m [1] 11 y → ∀ m2, m2 = aj_u m1 [1] 12 (m1 [1] 6) → Φ m2 := by
    intro y hy
    rintro _ rfl
    rintro _ rfl
    rw [zu_tup, tup_o (by omega), h.1.1]
    refine hK _ ⟨fun p hp => ?_, fun j hj => ?_, fun j _ => by rw [zu_off (by decide), zu_off (by decide)]⟩ ⟨?_, ?_⟩
    · have : p ≠ [1] := fun e => hp (by rw [e]; simp)
      rw [zu_off this, zu_off this]
    · rw [zu_tup, tup_o (by omega), zu_tup, tup_o (by omega)]
    · rw [zu_tup, tup_o (by omega), zu_tup, tup_s, hy]
    · rw [zu_tup, tup_s]
  unfold wX12_fails
  rw [h.2.2.1]
  refine ⟨by decide, fun _ => ⟨pr_r9 h, fun y => go x ?_, fun y => go 1 ?_⟩, fun y => absurd rfl y⟩
  · rw [h.1.2.2.1] at y
    rw [tkF, if_neg y]
  · rw [h.1.2.2.1] at y
    rw [tkF, if_pos y]
theorem pr_failsD {Φ : aj_M → Prop} {x : Int} (h : prD m) (h0 : Φ m) : wX12_fails f Φ [1] x m := ⟨h.1, fun y => absurd y h.2, fun _ => h0⟩
theorem pr_codes {Φ : aj_M → Prop} {cd : Int} (hc : c.length < 900) (h : prR m T n b c) (hK : ∀ m', prF m m' → prR m' T n b (c ++ [cd]) → Φ m') : wX12_codes f Φ [1] cd m := by
  obtain ⟨h1, h2, h3, h4, h5, h6⟩ := h
  unfold wX12_codes
  simp only [Int.reduceToNat]
  rw [h3, h5]
  refine ⟨by decide, fun _ => ⟨⟨by omega, by omega⟩, ?_⟩, fun y => absurd rfl y⟩
  rintro _ rfl
  rintro _ rfl
  rw [show (205 + (c.length : Int)).toNat = 205 + c.length by omega, zu_tup, tup_o (by omega), h5]
  have o1 : ∀ p, p ≠ [4, 1] → aj_u (aj_u m [4, 1] (205 + c.length) cd) [4, 1] 204 ((c.length : Int) + 1) p = m p := fun p a1 => by rw [zu_off a1, zu_off a1]
  have e1 : aj_u (aj_u m [4, 1] (205 + c.length) cd) [4, 1] 204 ((c.length : Int) + 1) [4, 1] = tup (tup (m [4, 1]) (205 + c.length) cd) 204 ((c.length : Int) + 1) := by rw [zu_tup, zu_tup]
  refine hK _ ⟨fun p hp => o1 p (fun e => hp (by rw [e]; simp)), fun j _ => by rw [o1 _ (by decide)], fun j hj => by rw [e1, tup_o (by omega), tup_o (by omega)]⟩ ⟨by rw [o1 _ (by decide)]; exact h1, by rw [o1 _ (by decide)]; exact h2, by rw [o1 _ (by decide)]; exact h3, fun j hj => by rw [o1 _ (by decide)]; exact h4 j hj, ?_, fun i hi => ?_⟩
  · rw [e1, tup_s, List.length_append, List.length_singleton]
    omega
  · rw [List.length_append, List.length_singleton] at hi
    rw [e1, tup_o (by omega)]
    by_cases e : i = c.length
    · subst e
      rw [tup_s, List.getD_eq_getElem?_getD, List.getElem?_append_right (Nat.le_refl _), Nat.sub_self]
      rfl
    · rw [tup_o (by omega), h6 i (by omega), List.getD_eq_getElem?_getD, List.getD_eq_getElem?_getD, List.getElem?_append_left (by omega)]
theorem pr_codesD {Φ : aj_M → Prop} {x : Int} (h : prD m) (h0 : Φ m) : wX12_codes f Φ [1] x m := ⟨h.1, fun y => absurd y h.2, fun _ => h0⟩
theorem pr_eats {Φ : Int → aj_M → Prop} {k : Int} (O : tpOK f T n) (hb : b ≤ n) (h : prR m T n b c) (hk : kOK k) (h1 : tkK T n b = k → ∀ m', prF m m' → prR m' T n (tkE T n b) c → Φ 1 m') (h0 : tkK T n b ≠ k → Φ 0 m) : wX12_eats f Φ [1] k m := pr_is h hk (fun x => zc1 (pr_next O hb h (h1 x))) (fun x => zc0 (h0 x))
theorem pr_eatsD {Φ : Int → aj_M → Prop} {k : Int} (h : prD m) (h0 : Φ 0 m) : wX12_eats f Φ [1] k m := pr_isD h (zc0 h0)
theorem pr_goesIn {Φ : Int → aj_M → Prop} {v : Nat} (O : tpOK f T n) (hb : b ≤ n) (h : prR m T n b c) (hv : v ≤ 6) (h1 : v < 6 → ∀ m', prF m m' → prR m' T n (tkE T n b) c → Φ 1 m') (h0 : v = 6 → ∀ m', prF m m' → prX m' (tkF T n b 4) (tkA T n b) → Φ 0 m') : wX12_goesIn f Φ [1] (v : Int) m := by
  refine ⟨⟨by omega, by omega⟩, fun x => ?_, fun x => pr_fails h (fun m' f1 f2 => ?_)⟩
  · unfold hX12_goesIn_11
    refine ⟨by rw [h.2.2.1]; decide, fun y => absurd h.2.2.1 y, fun _ => pr_next O hb h (fun m' f1 f2 => ⟨by rw [f2.2.2.1]; decide, fun y => absurd f2.2.2.1 y, fun _ => h1 (by omega) m' f1 f2⟩)⟩
  · have hD : prD m' := prX_D f2 (by unfold tkF; split <;> omega)
    unfold hX12_goesIn_11
    exact ⟨hD.1, fun _ => ⟨hD.1, fun _ => h0 (by omega) m' f1 f2, fun y => absurd y hD.2⟩, fun y => absurd y hD.2⟩
theorem pr_goesInD {Φ : Int → aj_M → Prop} {v : Int} (hv : rI v) (h : prD m) (h0 : Φ 0 m) : wX12_goesIn f Φ [1] v m := by
  have g : hX12_goesIn_11 f Φ [1] m := ⟨h.1, fun _ => ⟨h.1, fun _ => h0, fun y => absurd y h.2⟩, fun y => absurd y h.2⟩
  exact ⟨hv, fun _ => g, fun _ => pr_failsD h g⟩
theorem pr_takes {Φ : Int → aj_M → Prop} {lo hi : Int} (O : tpOK f T n) (hb : b ≤ n) (h : prR m T n b c) (hlo : rI lo) (hhi : rI hi) (h1 : tkK T n b = 23 → lo ≤ tkN T n b → tkN T n b ≤ hi → ∀ m', prF m m' → prR m' T n (tkE T n b) c → Φ (tkN T n b) m') (h3 : tkK T n b = 23 → ¬ (lo ≤ tkN T n b ∧ tkN T n b ≤ hi) → ∀ m' z, prF m m' → prX m' 3 (tkA T n b) → Φ z m') (h0 : tkK T n b ≠ 23 → ∀ m' z, prF m m' → prX m' (tkF T n b 2) (tkA T n b) → Φ z m') : wX12_takes f Φ [1] lo hi m := by
  refine pr_is h (Or.inl (by omega)) (fun x => zc1 ?_) (fun x => zc0 (pr_fails h (fun m' f1 f2 => ?_)))
  · have hN := tkN_b x
    have e10 : m [1] 10 = tkN T n b := h.1.2.2.2 x
    rw [e10]
    refine ⟨⟨by omega, by omega⟩, hlo, hhi, pX12_within ⟨by omega, by omega⟩ ⟨by omega, by omega⟩ ⟨by omega, by omega⟩ ?_⟩
    by_cases g : lo ≤ tkN T n b ∧ tkN T n b ≤ hi
    · rw [if_pos g]
      refine zc1 ⟨by rw [h.2.2.1]; decide, fun y => absurd h.2.2.1 y, fun _ => pr_next O hb h (fun m' f1 f2 => ?_)⟩
      rw [e10]
      exact h1 x g.1 g.2 m' f1 f2
    · rw [if_neg g]
      refine zc0 (pr_fails h (fun m' f1 f2 => ?_))
      rw [tkF, if_neg (by omega)] at f2
      have hD : prD m' := prX_D f2 (by omega)
      exact ⟨hD.1, fun _ => h3 x g m' _ f1 f2, fun y => absurd y hD.2⟩
  · have hD : prD m' := prX_D f2 (by unfold tkF; split <;> omega)
    exact ⟨hD.1, fun _ => h0 x m' _ f1 f2, fun y => absurd y hD.2⟩
theorem pr_takesD {Φ : Int → aj_M → Prop} {lo hi : Int} (h : prD m) (h0 : ∀ z, Φ z m) : wX12_takes f Φ [1] lo hi m :=
  pr_isD h (zc0 (pr_failsD h ⟨h.1, fun _ => h0 _, fun y => absurd y h.2⟩))
end PRS
