/-! READING LINES: pictures -/
def lLw (P : Nat → Int) (c : List Int) (lw : Nat) (ty : Bool) : Prop := P (7 + lw) = 0 ∨ (P (7 + lw) = 1 ∧ ∃ c1 e c2 : List Int, c = c1 ++ (e ++ c2) ∧ P (9 + lw) = c1.length ∧ P (11 + lw) = e.length ∧ 1 ≤ e.length ∧ zts e [] = some [ty])
def lArc (P : Nat → Int) : Prop := ∀ j : Nat, (j : Int) < P 6 → (0 ≤ P (13 + j) ∧ P (13 + j) < P 5) ∧ (0 ≤ P (25 + j) ∧ P (25 + j) < P 5) ∧ (P (37 + j) = 0 ∨ (P (37 + j) = 1 ∧ gO (P 1) (P 2) (P 3) (P (49 + j)) = 2)) ∧ 0 ≤ P (49 + j) ∧ P (49 + j) < P 4
def lI (P : Nat → Int) (c : List Int) (b : Nat) : Prop := gOK (P 1) (P 2) (P 3) (P 4) ∧ (1 ≤ P 5 ∧ P 5 ≤ 5) ∧ (0 ≤ P 6 ∧ P 6 ≤ 12) ∧ lArc P ∧ lLw P c 0 true ∧ lLw P c 1 false ∧ P 61 = 0 ∧ P 63 = 0 ∧ (0 ≤ P 62 ∧ P 62 ≤ 9) ∧ (0 ≤ P 0 ∧ P 0 ≤ b)
def lGs (m : aj_M) (P : Nat → Int) : Prop := (0 ≤ m [1, 3, 0, 0] 2 ∧ m [1, 3, 0, 0] 2 ≤ 900) ∧ (0 ≤ m [1, 3, 0, 0] 3 ∧ m [1, 3, 0, 0] 3 ≤ 900) ∧ (0 ≤ m [1, 3, 0, 0] 4 ∧ m [1, 3, 0, 0] 4 ≤ 900) ∧ (0 ≤ m [1, 3, 0, 0] 5 ∧ m [1, 3, 0, 0] 5 ≤ 900) ∧ (P 7 = 0 → m [1, 3, 0, 0] 3 ≤ m [1, 3, 0, 0] 2) ∧ (P 7 = 1 → m [1, 3, 0, 0] 2 = P 9 ∧ m [1, 3, 0, 0] 3 = P 9 + P 11) ∧ (P 8 = 0 → m [1, 3, 0, 0] 5 ≤ m [1, 3, 0, 0] 4) ∧ (P 8 = 1 → m [1, 3, 0, 0] 4 = P 10 ∧ m [1, 3, 0, 0] 5 = P 10 + P 12)
def lHv (x : Int) (P : Nat → Int) : Prop := ∃ H : Nat, x = H ∧ H < 2 ^ (P 6).toNat ∧ ∀ j : Nat, (j : Int) < P 6 → H.testBit j = decide (P (37 + j) = 1)
def lRw (m : aj_M) (P : Nat → Int) : Prop := ∀ j : Nat, (j : Int) < P 6 → m [7, 3, 0, 0] j = P (13 + j) ∧ m [8, 3, 0, 0] j = P (25 + j) ∧ m [9, 3, 0, 0] j = P (49 + j)
def lP (m : aj_M) (P : Nat → Int) : Prop := gC m [0, 3, 0, 0] (P 1) (P 2) (P 3) (P 4) ∧ m [3, 0, 0] 2 = P 62 ∧ m [3, 0, 0] 3 = P 5 ∧ m [3, 0, 0] 4 = P 6 ∧ m [3, 0, 0] 5 = P 0 ∧ lHv (m [3, 0, 0] 6) P ∧ lRw m P ∧ lGs m P
def lC (m : aj_M) (T : Nat → Int) (n b : Nat) (c : List Int) (P : Nat → Int) (pl : Int) : Prop := pcC m T n b c ∧ lP m P ∧ m [0, 0] 4 = pl
def lR (m : aj_M) (T : Nat → Int) (n b : Nat) (c : List Int) (P : Nat → Int) (pl : Int) : Prop := prR m T n b c ∧ (∀ j, j < 204 → m [4, 1] j = P j) ∧ m [1] 15 = pl
def lCl : List (List Nat) := [0, 0] :: zcpl [3, 0, 0]
def lFC (m m' : aj_M) : Prop := zo lCl m m' ∧ (∀ j, j < 4 ∨ 10 < j → m' [0, 0] j = m [0, 0] j)
def lFR (m m' : aj_M) : Prop := zo [[1], [4, 1]] m m' ∧ (∀ j, j < 6 ∨ j = 8 ∨ j = 13 ∨ j = 14 ∨ 15 < j → m' [1] j = m [1] j)
theorem lFC_p {m m' : aj_M} (h : pcF m m') : lFC m m' := ⟨zo_m h.1 (by decide), fun j hj => h.2.1 j (by omega)⟩
theorem lFR_p {m m' : aj_M} (h : prF m m') : lFR m m' := ⟨h.1, fun j hj => h.2.1 j (by omega)⟩
theorem lFC_t {m m1 m2 : aj_M} (h : lFC m m1) (k : lFC m1 m2) : lFC m m2 := ⟨zo_t h.1 k.1, fun j hj => (k.2 j hj).trans (h.2 j hj)⟩
theorem lFR_t {m m1 m2 : aj_M} (h : lFR m m1) (k : lFR m1 m2) : lFR m m2 := ⟨zo_t h.1 k.1, fun j hj => (k.2 j hj).trans (h.2 j hj)⟩
theorem lFC_u {m m1 : aj_M} {p : List Nat} {j : Nat} {v : Int} (h : lFC m m1) (hp : p ∈ zcpl [3, 0, 0]) : lFC m (aj_u m1 p j v) := by
  refine ⟨fun q hq => ?_, fun k hk => ?_⟩
  · rw [zu_off (fun e => hq (by rw [e]; exact List.mem_cons_of_mem _ hp))]
    exact h.1 q hq
  · have : [0, 0] ≠ p := fun e => by
      have q : ([0, 0] : List Nat) ∉ zcpl [3, 0, 0] := by decide
      subst e
      exact q hp
    rw [zu_off this]
    exact h.2 k hk
theorem lFC_4 {m m1 : aj_M} {v : Int} (h : lFC m m1) : lFC m (aj_u m1 [0, 0] 4 v) := by
  refine ⟨fun q hq => ?_, fun k hk => ?_⟩
  · rw [zu_off (fun e => hq (by rw [e]; decide))]
    exact h.1 q hq
  · rw [zu_tup, tup_o (by omega)]
    exact h.2 k hk
theorem lFR_4 {m m1 : aj_M} {j : Nat} {v : Int} (h : lFR m m1) : lFR m (aj_u m1 [4, 1] j v) := by
  refine ⟨fun q hq => ?_, fun k hk => ?_⟩
  · rw [zu_off (fun e => hq (by rw [e]; simp))]
    exact h.1 q hq
  · rw [zu_off (by decide)]
    exact h.2 k hk
theorem lFR_15 {m m1 : aj_M} {v : Int} (h : lFR m m1) : lFR m (aj_u m1 [1] 15 v) := by
  refine ⟨fun q hq => ?_, fun k hk => ?_⟩
  · rw [zu_off (fun e => hq (by rw [e]; simp))]
    exact h.1 q hq
  · rw [zu_tup, tup_o (by omega)]
    exact h.2 k hk
theorem lFC_r {m : aj_M} : lFC m m := ⟨fun _ _ => rfl, fun _ _ => rfl⟩
theorem lFR_r {m : aj_M} : lFR m m := ⟨fun _ _ => rfl, fun _ _ => rfl⟩
theorem gC_off {m m' : aj_M} {q : List Nat} {k a b n : Int} (h : gC m q k a b n) (h0 : m' q = m q) (h1 : m' (1 :: q) = m (1 :: q)) (h2 : m' (2 :: q) = m (2 :: q)) (h3 : m' (3 :: q) = m (3 :: q)) : gC m' q k a b n := by
  unfold gC
  rw [h0, h1, h2, h3]
  exact h
theorem lP_F {m m' : aj_M} {P : Nat → Int} (h : lP m P) (f1 : pcF m m') : lP m' P := by
  obtain ⟨h1, h2, h3, h4, h5, h6, h7, h8⟩ := h
  have e3 : m' [3, 0, 0] = m [3, 0, 0] := f1.1 _ (by decide)
  have l2 := f1.2.2 2 (by decide)
  have l3 := f1.2.2 3 (by decide)
  have l4 := f1.2.2 4 (by decide)
  have l5 := f1.2.2 5 (by decide)
  refine ⟨gC_off h1 (f1.1 _ (by decide)) (f1.1 _ (by decide)) (f1.1 _ (by decide)) (f1.1 _ (by decide)), by rw [e3]; exact h2, by rw [e3]; exact h3, by rw [e3]; exact h4, by rw [e3]; exact h5, by rw [e3]; exact h6, fun j hj => ?_, ?_⟩
  · rw [f1.1 [7, 3, 0, 0] (by decide), f1.1 [8, 3, 0, 0] (by decide), f1.1 [9, 3, 0, 0] (by decide)]
    exact h7 j hj
  · unfold lGs
    rw [l2, l3, l4, l5]
    exact h8
theorem lC_s {m m1 : aj_M} {T : Nat → Int} {n b b1 : Nat} {c c1 : List Int} {P : Nat → Int} {pl : Int} (h : lC m T n b c P pl) (f1 : pcF m m1) (p1 : pcC m1 T n b1 c1) : lC m1 T n b1 c1 P pl := ⟨p1, lP_F h.2.1 f1, (f1.2.1 4 (by omega)).trans h.2.2⟩
theorem lR_s {m m1 : aj_M} {T : Nat → Int} {n b b1 : Nat} {c c1 : List Int} {P : Nat → Int} {pl : Int} (h : lR m T n b c P pl) (f1 : prF m m1) (p1 : prR m1 T n b1 c1) : lR m1 T n b1 c1 P pl := ⟨p1, fun j hj => (f1.2.2 j hj).trans (h.2.1 j hj), (f1.2.1 15 (by omega)).trans h.2.2⟩
theorem tup_c {R P : Nat → Int} {k : Nat} {v : Int} (h : ∀ j, j < 204 → R j = P j) : ∀ j, j < 204 → tup R k v j = tup P k v j := fun j hj => by
  by_cases e : j = k
  · rw [e, tup_s, tup_s]
  · rw [tup_o e, tup_o e, h j hj]
/-- a number of the row below its codes is written -/
theorem lR_u {m : aj_M} {T : Nat → Int} {n b : Nat} {c : List Int} {P : Nat → Int} {pl v : Int} {k : Nat} (h : lR m T n b c P pl) (hk : k < 204) : lR (aj_u m [4, 1] k v) T n b c (tup P k v) pl := by
  obtain ⟨⟨h1, h2, h3, h4, h5, h6⟩, h7, h8⟩ := h
  have o : ∀ p, p ≠ [4, 1] → aj_u m [4, 1] k v p = m p := fun p hp => zu_off hp
  refine ⟨⟨by rw [o _ (by decide)]; exact h1, by rw [o _ (by decide)]; exact h2, by rw [o _ (by decide)]; exact h3, fun j hj => by rw [o _ (by decide)]; exact h4 j hj, by rw [zu_tup, tup_o (by omega)]; exact h5, fun i hi => by rw [zu_tup, tup_o (by omega)]; exact h6 i hi⟩, fun j hj => ?_, by rw [o _ (by decide)]; exact h8⟩
  rw [zu_tup]
  exact tup_c h7 j hj
theorem lR_15 {m : aj_M} {T : Nat → Int} {n b : Nat} {c : List Int} {P : Nat → Int} {pl v : Int} (h : lR m T n b c P pl) : lR (aj_u m [1] 15 v) T n b c P v := by
  obtain ⟨⟨h1, h2, h3, h4, h5, h6⟩, h7, h8⟩ := h
  have o : ∀ p, p ≠ [1] → aj_u m [1] 15 v p = m p := fun p hp => zu_off hp
  refine ⟨⟨?_, by rw [zu_tup, tup_o (by omega)]; exact h2, by rw [zu_tup, tup_o (by omega)]; exact h3, fun j hj => by rw [o _ (by decide)]; exact h4 j hj, by rw [o _ (by decide)]; exact h5, fun i hi => by rw [o _ (by decide)]; exact h6 i hi⟩, fun j hj => by rw [o _ (by decide)]; exact h7 j hj, by rw [zu_tup, tup_s]⟩
  unfold tkR
  rw [zu_tup, tup_o (by omega), tup_o (by omega), tup_o (by omega), tup_o (by omega)]
  exact h1
theorem pcC_off {m m' : aj_M} {T : Nat → Int} {n b : Nat} {c : List Int} (h : pcC m T n b c) (h0 : ∀ j, j ≠ 4 → m' [0, 0] j = m [0, 0] j) (h1 : m' [0, 0, 0] = m [0, 0, 0]) (h2 : m' [1, 3, 0, 0] 1 = m [1, 3, 0, 0] 1) (h3 : m' [0, 1, 3, 0, 0] = m [0, 1, 3, 0, 0]) : pcC m' T n b c := by
  unfold pcC tkC at h ⊢
  rw [h0 5 (by omega), h0 6 (by omega), h0 7 (by omega), h0 8 (by omega), h0 2 (by omega), h0 9 (by omega), h0 10 (by omega), h1, h2, h3]
  exact h
theorem prX_u {m : aj_M} {k a v : Int} {j : Nat} (h : prX m k a) : prX (aj_u m [4, 1] j v) k a := by
  unfold prX
  rw [zu_off (by decide)]
  exact h
theorem prX_15 {m : aj_M} {k a v : Int} (h : prX m k a) : prX (aj_u m [1] 15 v) k a := by
  unfold prX
  rw [zu_tup, tup_o (by omega), tup_o (by omega)]
  exact h
theorem prD_u {m : aj_M} {v : Int} {j : Nat} (h : prD m) : prD (aj_u m [4, 1] j v) := by
  unfold prD
  rw [zu_off (by decide)]
  exact h
def gdL (n b : Nat) : (Nat × List Int × (Nat → Int) × Int) ⊕ (Int × Int) → Prop
  | .inl (b', c', P', pl') => b < b' ∧ b' ≤ n ∧ c'.length ≤ b' ∧ lI P' c' b ∧ (pl' = 0 ∨ pl' = 1)
  | .inr (k, a) => (1 ≤ k ∧ k ≤ 4) ∧ 0 ≤ a ∧ a ≤ 900
def lcC (Φ : Int → aj_M → Prop) (m : aj_M) (T : Nat → Int) (n : Nat) : (Nat × List Int × (Nat → Int) × Int) ⊕ (Int × Int) → Prop
  | .inl (b', c', P', pl') => ∀ m', lFC m m' → lC m' T n b' c' P' pl' → Φ 1 m'
  | .inr (k, a) => ∀ m', lFC m m' → pcX m' k a → Φ 0 m'
def lcR (Ψ : aj_M → Prop) (m : aj_M) (T : Nat → Int) (n : Nat) : (Nat × List Int × (Nat → Int) × Int) ⊕ (Int × Int) → Prop
  | .inl (b', c', P', pl') => ∀ m', lFR m m' → lR m' T n b' c' P' pl' → Ψ m'
  | .inr (k, a) => ∀ m', lFR m m' → prX m' k a → Ψ m'
theorem lLw_o {P P' : Nat → Int} {c : List Int} {lw : Nat} {ty : Bool} (h : lLw P c lw ty) (h7 : P' (7 + lw) = P (7 + lw)) (h9 : P' (9 + lw) = P (9 + lw)) (h11 : P' (11 + lw) = P (11 + lw)) : lLw P' c lw ty := by
  unfold lLw
  rw [h7, h9, h11]
  exact h
theorem lLw_g {P : Nat → Int} {c e0 : List Int} {lw : Nat} {ty : Bool} (h : lLw P c lw ty) : lLw P (c ++ e0) lw ty := by
  rcases h with h | ⟨h1, c1, e, c2, h2, h3, h4, h5, h6⟩
  · exact Or.inl h
  · refine Or.inr ⟨h1, c1, e, c2 ++ e0, ?_, h3, h4, h5, h6⟩
    rw [h2]
    simp only [List.append_assoc]
/-! a line of places -/
section LNS
variable {f n b : Nat} {T : Nat → Int} {c : List Int} {P : Nat → Int} {pl : Int}
theorem ln_cant (O : tpOK f T n) (hb : b ≤ n) : gdL n b (.inr (tkF T n b 2, (tkA T n b : Nat))) := ⟨tkF_g (by omega), tkA_g O.2.2 hb⟩
theorem ln_places (O : tpOK f T n) (hb : b ≤ n) (hc : c.length ≤ b) (I : lI P c b) (hpl : pl = 0 ∨ pl = 1) (hk : tkK T n b = 6) : ∃ r, gdL n b r ∧ (∀ (Φ : Int → aj_M → Prop) (m : aj_M), lC m T n b c P pl → lcC Φ m T n r → wX7_readPlaces f Φ [0, 0] m) ∧ (∀ (Ψ : aj_M → Prop) (m : aj_M), lR m T n b c P pl → lcR Ψ m T n r → wX12_readPlaces f Ψ [1] m) := by
  have hn := O.2.2
  obtain ⟨hE1, hE2⟩ := tk_more (T := T) hb (by omega)
  have hE := tkE_b (T := T) hb
  have hE' := tkE_b (T := T) hE.2
  have h6 := I.2.2.1
  by_cases g : pl = 0 ∧ P 6 = 0
  · obtain ⟨rfl, g6⟩ := g
    have beg : ∀ (Φ : Int → aj_M → Prop) (m : aj_M), lC m T n b c P 0 → (∀ m1, lFC m m1 → lC m1 T n (tkE T n b) c P 1 → wX7_takeNumber f (fun z3 m4 => rI z3 ∧ ∀ m5, m5 = aj_u m4 [3, 0, 0] 3 (max 1 z3) → rI z3 ∧ (z3 < 1 → Φ 0 m5) ∧ (¬ (z3 < 1) → Φ 1 m5)) [0, 0] 1 5 m1) → wX7_readPlaces f Φ [0, 0] m := by
      intro Φ m h hK
      refine ⟨by rw [h.2.2]; decide, fun x => absurd h.2.2 x, fun _ => ⟨by rw [h.2.1.2.2.2.1]; exact ⟨by omega, by omega⟩, fun _ => ?_, fun x => absurd (by rw [h.2.1.2.2.2.1]; omega) x⟩⟩
      rintro _ rfl
      have o : ∀ p, p ≠ [0, 0] → aj_u m [0, 0] 4 1 p = m p := fun p hp => zu_off hp
      have c2 : pcC (aj_u m [0, 0] 4 1) T n b c := pcC_off h.1 (fun j hj => by rw [zu_tup, tup_o hj]) (o _ (by decide)) (by rw [o _ (by decide)]) (o _ (by decide))
      have l2 : lC (aj_u m [0, 0] 4 1) T n b c P 1 := by
        refine ⟨c2, ?_, by rw [zu_tup, tup_s]⟩
        obtain ⟨h1, h2, h3, h4, h5, h6, h7, h8⟩ := h.2.1
        refine ⟨gC_off h1 (o _ (by decide)) (o _ (by decide)) (o _ (by decide)) (o _ (by decide)), by rw [o _ (by decide)]; exact h2, by rw [o _ (by decide)]; exact h3, by rw [o _ (by decide)]; exact h4, by rw [o _ (by decide)]; exact h5, by rw [o _ (by decide)]; exact h6, fun j hj => ?_, ?_⟩
        · rw [o _ (by decide), o _ (by decide), o _ (by decide)]
          exact h7 j hj
        · unfold lGs
          rw [o _ (by decide)]
          exact h8
      exact pc_step O hb c2 (fun m1 f1 p1 => hK m1 (lFC_t (lFC_4 lFC_r) (lFC_p f1)) (lC_s l2 f1 p1))
    have begR : ∀ (Ψ : aj_M → Prop) (m : aj_M), lR m T n b c P 0 → (∀ m1, lFR m m1 → lR m1 T n (tkE T n b) c P 1 → wX12_takes f (fun z2 m3 => ∀ m4, m4 = aj_u m3 [4, 1] (5 : Int).toNat z2 → Ψ m4) [1] 1 5 m1) → wX12_readPlaces f Ψ [1] m := by
      intro Ψ m h hK
      have e6 : m [4, 1] 6 = 0 := (h.2.1 6 (by omega)).trans g6
      have s22 : hX12_readPlaces_22 f Ψ [1] m := by
        refine ⟨by rw [h.1.2.2.1]; decide, fun _ => pr_next O hb h.1 (fun m1 f1 p1 => ?_), fun x => absurd h.1.2.2.1 x⟩
        rintro _ rfl
        exact hK _ (lFR_15 (lFR_p f1)) (lR_15 (lR_s h f1 p1))
      refine ⟨by rw [h.2.2]; decide, fun x => absurd h.2.2 x, fun _ => ⟨by rw [show (6 : Int).toNat = 6 from rfl, e6]; decide, fun _ => s22, fun x => absurd (by rw [show (6 : Int).toNat = 6 from rfl, e6]; decide) x⟩⟩
    by_cases g1 : tkK T n (tkE T n b) = 23
    · by_cases g2 : 1 ≤ tkN T n (tkE T n b) ∧ tkN T n (tkE T n b) ≤ 5
      · obtain ⟨hE3, hE4⟩ := tk_more (T := T) hE.2 (by omega)
        refine ⟨.inl (tkE T n (tkE T n b), c, tup P 5 (tkN T n (tkE T n b)), 1), ⟨by omega, hE'.2, by omega, ?_, Or.inr rfl⟩, fun Φ m h hΦ => beg Φ m h (fun m1 f1 l1 => ?_), fun Ψ m h hΨ => begR Ψ m h (fun m1 f1 l1 => ?_)⟩
        · obtain ⟨i1, i2, i3, i4, i5, i6, i7, i8, i9, i10⟩ := I
          refine ⟨by rw [tup_o (by omega), tup_o (by omega), tup_o (by omega), tup_o (by omega)]; exact i1, by rw [tup_s]; exact g2, by rw [tup_o (by omega)]; exact i3, fun j hj => ?_, lLw_o i5 (tup_o (by omega)) (tup_o (by omega)) (tup_o (by omega)), lLw_o i6 (tup_o (by omega)) (tup_o (by omega)) (tup_o (by omega)), by rw [tup_o (by omega)]; exact i7, by rw [tup_o (by omega)]; exact i8, by rw [tup_o (by omega)]; exact i9, by rw [tup_o (by omega)]; exact i10⟩
          rw [tup_o (by omega)] at hj
          omega
        · refine pc_num O hE.2 l1.1 (by decide) (by decide) (fun _ _ _ m2 f2 p2 => ?_) (fun _ x => absurd g2 x) (fun x => absurd g1 x)
          have l2 := lC_s l1 f2 p2
          refine ⟨⟨by omega, by omega⟩, ?_⟩
          rintro _ rfl
          refine ⟨⟨by omega, by omega⟩, fun x => by omega, fun _ => hΦ _ (lFC_u (lFC_t f1 (lFC_p f2)) (by decide)) ?_⟩
          have o : ∀ p, p ≠ [3, 0, 0] → aj_u m2 [3, 0, 0] 3 (max 1 (tkN T n (tkE T n b))) p = m2 p := fun p hp => zu_off hp
          have e3 : ∀ j, j ≠ 3 → aj_u m2 [3, 0, 0] 3 (max 1 (tkN T n (tkE T n b))) [3, 0, 0] j = m2 [3, 0, 0] j := fun j hj => by rw [zu_tup, tup_o hj]
          refine ⟨pcC_off p2 (fun j _ => by rw [o _ (by decide)]) (o _ (by decide)) (by rw [o _ (by decide)]) (o _ (by decide)), ?_, by rw [o _ (by decide)]; exact l2.2.2⟩
          obtain ⟨h1, h2, h3, h4, h5, h6', h7, h8⟩ := l2.2.1
          refine ⟨?_, by rw [e3 2 (by omega), tup_o (by omega)]; exact h2, by rw [zu_tup, tup_s, tup_s]; omega, by rw [e3 4 (by omega), tup_o (by omega)]; exact h4, by rw [e3 5 (by omega), tup_o (by omega)]; exact h5, ?_, fun j hj => ?_, ?_⟩
          · rw [tup_o (by omega), tup_o (by omega), tup_o (by omega), tup_o (by omega)]
            exact gC_off h1 (o _ (by decide)) (o _ (by decide)) (o _ (by decide)) (o _ (by decide))
          · rw [e3 6 (by omega)]
            unfold lHv
            rw [tup_o (by omega)]
            obtain ⟨H, a1, a2, a3⟩ := h6'
            exact ⟨H, a1, a2, fun j hj => by rw [tup_o (by omega)]; exact a3 j hj⟩
          · rw [tup_o (by omega)] at hj
            omega
          · unfold lGs
            rw [o _ (by decide), tup_o (by omega), tup_o (by omega), tup_o (by omega), tup_o (by omega), tup_o (by omega), tup_o (by omega)]
            exact h8
        · refine pr_takes O hE.2 l1.1 (by decide) (by decide) (fun _ _ _ m2 f2 p2 => ?_) (fun _ x => absurd g2 x) (fun x => absurd g1 x)
          rintro _ rfl
          exact hΨ _ (lFR_4 (lFR_t f1 (lFR_p f2))) (lR_u (lR_s l1 f2 p2) (by decide))
      · refine ⟨.inr (3, (tkA T n (tkE T n b) : Nat)), ⟨by omega, tkA_g hn hE.2⟩, fun Φ m h hΦ => beg Φ m h (fun m1 f1 l1 => ?_), fun Ψ m h hΨ => begR Ψ m h (fun m1 f1 l1 => ?_)⟩
        · refine pc_num O hE.2 l1.1 (by decide) (by decide) (fun _ x y => absurd ⟨x, y⟩ g2) (fun _ _ m2 f2 p2 => ⟨by decide, ?_⟩) (fun x => absurd g1 x)
          rintro _ rfl
          refine ⟨by decide, fun _ => hΦ _ (lFC_u (lFC_t f1 (lFC_p f2)) (by decide)) ?_, fun x => absurd (by decide) x⟩
          unfold pcX
          rw [zu_off (by decide)]
          exact p2
        · refine pr_takes O hE.2 l1.1 (by decide) (by decide) (fun _ x y => absurd ⟨x, y⟩ g2) (fun _ _ m2 z f2 p2 => ?_) (fun x => absurd g1 x)
          rintro _ rfl
          exact hΨ _ (lFR_4 (lFR_t f1 (lFR_p f2))) (prX_u p2)
    · refine ⟨.inr (tkF T n (tkE T n b) 2, (tkA T n (tkE T n b) : Nat)), ⟨tkF_g (by omega), tkA_g hn hE.2⟩, fun Φ m h hΦ => beg Φ m h (fun m1 f1 l1 => ?_), fun Ψ m h hΨ => begR Ψ m h (fun m1 f1 l1 => ?_)⟩
      · refine pc_num O hE.2 l1.1 (by decide) (by decide) (fun x => absurd x g1) (fun x => absurd x g1) (fun _ m2 f2 p2 => ⟨by decide, ?_⟩)
        rintro _ rfl
        refine ⟨by decide, fun _ => hΦ _ (lFC_u (lFC_t f1 (lFC_p f2)) (by decide)) ?_, fun x => absurd (by decide) x⟩
        unfold pcX
        rw [zu_off (by decide)]
        exact p2
      · refine pr_takes O hE.2 l1.1 (by decide) (by decide) (fun x => absurd x g1) (fun x => absurd x g1) (fun _ m2 z f2 p2 => ?_)
        rintro _ rfl
        exact hΨ _ (lFR_4 (lFR_t f1 (lFR_p f2))) (prX_u p2)
  · refine ⟨.inr (tkF T n b 2, (tkA T n b : Nat)), ln_cant O hb, fun Φ m h hΦ => ?_, fun Ψ m h hΨ => ?_⟩
    · have cs : wX7_cantStand f (fun z1 m1 => (z1 = 0 ∨ z1 = 1) ∧ Φ z1 m1) [0, 0] m := pc_cant h.1 (fun m1 f1 p1 => ⟨Or.inl rfl, hΦ m1 (lFC_p f1) p1⟩)
      refine ⟨by rw [h.2.2]; exact ⟨by omega, by omega⟩, fun _ => cs, fun x => ⟨by rw [h.2.1.2.2.2.1]; exact ⟨by omega, by omega⟩, fun y => ?_, fun _ => cs⟩⟩
      rw [h.2.2] at x
      rw [h.2.1.2.2.2.1] at y
      exact absurd ⟨x, by omega⟩ g
    · have e6 : m [4, 1] 6 = P 6 := h.2.1 6 (by omega)
      have fl : wX12_fails f (fun m1 => hX12_readPlaces_22 f Ψ [1] m1) [1] 2 m := pr_fails h.1 (fun m1 f1 p1 => by
        have hD := prX_D p1 (tkF_g (by omega))
        exact ⟨hD.1, fun x => absurd x hD.2, fun _ => hΨ m1 (lFR_p f1) p1⟩)
      unfold wX12_readPlaces
      rw [show (6 : Int).toNat = 6 from rfl, e6, h.2.2]
      exact ⟨⟨by omega, by omega⟩, fun _ => fl, fun x => ⟨⟨by omega, by omega⟩, fun y => absurd ⟨x, by omega⟩ g, fun _ => fl⟩⟩
end LNS
