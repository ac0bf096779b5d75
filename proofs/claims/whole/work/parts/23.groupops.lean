/-! THE GROUP'S METHODS, of the class and of the reference -/
def gC (m : aj_M) (q : List Nat) (k a b n : Int) : Prop := m q 0 = n ∧ (∀ x y : Int, 0 ≤ x → x < n → 0 ≤ y → y < n → m (1 :: q) (x * 12 + y).toNat = gT k a b x y) ∧ (∀ x : Int, 0 ≤ x → x < n → m (2 :: q) x.toNat = gI k a b x) ∧ (∀ x : Int, 0 ≤ x → x < n → m (3 :: q) x.toNat = gO k a b x)
theorem zd_div {x b : Int} (hx : 0 ≤ x) (hb : 1 ≤ b) : 0 ≤ x / b ∧ x / b ≤ x ∧ 0 ≤ x % b ∧ x % b < b := ⟨Int.ediv_nonneg hx (by omega), Int.ediv_le_self _ hx, Int.emod_nonneg _ (by omega), Int.emod_lt_of_pos _ (by omega)⟩
theorem pX0_has {f : Nat} {Φ : Int → aj_M → Prop} {q : List Nat} {v : Int} {m : aj_M} (hv : rI v) (hs : rI (m q 0)) (h1 : 0 ≤ v → v < m q 0 → Φ 1 m) (h0 : ¬ (0 ≤ v ∧ v < m q 0) → Φ 0 m) : wX0_has f Φ q v m := by
  unfold wX0_has
  refine ⟨hv, fun c => h0 (by omega), fun c => ⟨hv, hs, fun c2 => h0 (by omega), fun c2 => h1 (by omega) (by omega)⟩⟩
theorem pX0_times {f : Nat} {Φ : Int → aj_M → Prop} {q : List Nat} {x y n t : Int} {m : aj_M} (hn : m q 0 = n) (h12 : n ≤ 12) (hx : 0 ≤ x) (hx2 : x < n) (hy : 0 ≤ y) (hy2 : y < n) (ht : m (1 :: q) (x * 12 + y).toNat = t) (h : Φ t m) : wX0_times f Φ q x y m := by
  unfold wX0_times
  refine pX0_has (by omega) (by omega) (fun _ _ => zb1 ?_) (fun c => absurd ⟨hx, by omega⟩ c)
  refine pX0_has (by omega) (by omega) (fun _ _ => zb1 ?_) (fun c => absurd ⟨hy, by omega⟩ c)
  refine ⟨⟨by omega, by omega⟩, ?_⟩
  rw [ht]
  exact h
theorem hX0_settle_in {f : Nat} {Φ : aj_M → Prop} {K : List Nat → Int → aj_M → Prop} {q : List Nat} {m : aj_M} {k a b n x : Int} (hg : gOK k a b n) (hn : m q 0 = n) (hT : ∀ x y : Int, 0 ≤ x → x < n → 0 ≤ y → y < n → m (1 :: q) (x * 12 + y).toNat = gT k a b x y) (hx : 0 ≤ x) (hx2 : x < n) {z : Int × Int} (h : K q (x + 1) (aj_u (aj_u m (3 :: q) x.toNat z.1) (2 :: q) x.toNat z.2)) : ∀ (fu j : Nat) (p l many : Int), fu ≤ j → gSf k a b n x fu p l many = some z → 0 ≤ p → p < n → 1 ≤ many → many ≤ 12 → hX0_settle_17 f Φ K j q x p l many m := by
  have h12 := gOK_n hg
  intro fu
  induction fu with
  | zero => intro j p l many _ e; simp [gSf] at e
  | succ fu ih =>
    intro j p l many hj e hp hp2 hm hm2
    obtain ⟨j, rfl⟩ : ∃ j', j = j' + 1 := ⟨j - 1, by omega⟩
    unfold gSf at e
    unfold hX0_settle_17
    rw [hn]
    refine ⟨⟨by omega, by omega⟩, ⟨by omega, by omega⟩, fun c => ⟨⟨hx, by omega⟩, ?_⟩, fun c => ⟨⟨by omega, by omega⟩, fun c2 => ⟨⟨hx, by omega⟩, ?_⟩, fun c2 => ?_⟩⟩
    · rw [if_pos (Or.inl c)] at e
      rintro _ rfl
      refine ⟨⟨hx, by omega⟩, ?_⟩
      rintro _ rfl
      cases e
      exact h
    · rw [if_pos (Or.inr c2)] at e
      rintro _ rfl
      refine ⟨⟨hx, by omega⟩, ?_⟩
      rintro _ rfl
      cases e
      exact h
    · rw [if_neg (by omega)] at e
      refine pX0_times hn h12.2 hp hp2 hx hx2 (hT p x hp hp2 hx hx2) ?_
      have hf := g_fact hg hp hp2 hx hx2
      exact ih j _ _ _ (by omega) e hf.1 hf.2.1 (by omega) (by omega)
theorem pX0_settle {f : Nat} {Φ : aj_M → Prop} {q : List Nat} {m : aj_M} {k a b n : Int} (hf : 20 ≤ f) (hg : gOK k a b n) (hn : m q 0 = n) (hT : ∀ x y : Int, 0 ≤ x → x < n → 0 ≤ y → y < n → m (1 :: q) (x * 12 + y).toNat = gT k a b x y) (h : ∀ m', zo [2 :: q, 3 :: q] m m' → gC m' q k a b n → Φ m') : wX0_settle f Φ q m := by
  have h12 := gOK_n hg
  unfold wX0_settle
  refine zp_for (H := fun j i s => hX0_settle_2 f Φ j q i s) (N := n) (fun i s => 0 ≤ i ∧ zo [2 :: q, 3 :: q] m s ∧ (∀ x : Int, 0 ≤ x → x < i → s (2 :: q) x.toNat = gI k a b x) ∧ (∀ x : Int, 0 ≤ x → x < i → s (3 :: q) x.toNat = gO k a b x)) ?_ f 0 m (by omega) (by omega) ⟨by omega, zo_refl, fun x h1 h2 => by omega, fun x h1 h2 => by omega⟩
  intro j i s hi hI hs
  obtain ⟨h0, hz, hB, hO⟩ := hI
  have hn' : s q 0 = n := by rw [hz q (by simp), hn]
  have hT' : ∀ x y : Int, 0 ≤ x → x < n → 0 ≤ y → y < n → s (1 :: q) (x * 12 + y).toNat = gT k a b x y := by rw [hz (1 :: q) (by simp)]; exact hT
  unfold hX0_settle_2
  rw [hn']
  refine ⟨⟨by omega, by omega⟩, ⟨by omega, by omega⟩, fun c => ?_, fun c => ?_⟩
  · exact h s hz ⟨hn', hT', fun x h1 h2 => hB x h1 (by omega), fun x h1 h2 => hO x h1 (by omega)⟩
  · refine hX0_settle_in (z := (gO k a b i, gI k a b i)) hg hn' hT' h0 (by omega) ?_ 13 f i 0 1 (by omega) (g_fact hg h0 (by omega) h0 (by omega)).2.2.2.2.2.2.2.2.2.2 h0 (by omega) (by omega) (by omega)
    refine hs (by omega) _ ⟨by omega, ?_, fun x h1 h2 => ?_, fun x h1 h2 => ?_⟩
    · exact zo_tr hz (zo_tr (zo_u (by simp)) (zo_u (by simp)))
    · by_cases e : x = i
      · subst e; simp [aj_u]
      · have : x.toNat ≠ i.toNat := by omega
        simp [aj_u, this, hB x h1 (by omega)]
    · by_cases e : x = i
      · subst e; simp [aj_u]
      · have : x.toNat ≠ i.toNat := by omega
        simp [aj_u, this, hO x h1 (by omega)]
/-- a told product's table -/
def gPr (a b x y : Int) : Int := (x / b + y / b) % a * b + (x % b + y % b) % b
theorem pX0_makeProduct {f : Nat} {Φ : aj_M → Prop} {q : List Nat} {m : aj_M} {k c d a b : Int} (hf : 20 ≤ f) (ha : 1 ≤ a) (hb : 1 ≤ b) (hab : a * b ≤ 12) (hg : gOK k c d (a * b)) (hT : ∀ x y : Int, 0 ≤ x → x < a * b → 0 ≤ y → y < a * b → gPr a b x y = gT k c d x y) (h : ∀ m', zo [q, 1 :: q, 2 :: q, 3 :: q] m m' → gC m' q k c d (a * b) → Φ m') : wX0_makeProduct f Φ q a b m := by
  have h12 := gOK_n hg
  have ha2 : a * 1 ≤ a * b := Int.mul_le_mul_of_nonneg_left hb (by omega)
  have hb2 : 1 * b ≤ a * b := Int.mul_le_mul_of_nonneg_right ha (by omega)
  unfold wX0_makeProduct
  refine ⟨⟨by omega, by omega⟩, fun e => by omega, fun _ => ⟨⟨by omega, by omega⟩, fun e => by omega, fun _ => ⟨⟨by omega, by omega⟩, fun _ => ?_, fun e => by omega⟩⟩⟩
  rintro m1 e1
  have hm1 : m1 q 0 = a * b := by rw [e1]; simp [aj_u]
  have hz1 : zo [q, 1 :: q, 2 :: q, 3 :: q] m m1 := by rw [e1]; exact zo_u (by simp)
  generalize hN : a * b = n at *
  refine zp_for (H := fun j i s => hX0_makeProduct_28 f Φ j q a b i s) (N := n) (fun i s => 0 ≤ i ∧ zo [1 :: q] m1 s ∧ (∀ x y : Int, 0 ≤ x → x < i → 0 ≤ y → y < n → s (1 :: q) (x * 12 + y).toNat = gPr a b x y)) ?_ f 0 m1 (by omega) (by omega) ⟨by omega, zo_refl, fun x y h1 h2 => by omega⟩
  intro j i s hi hI hs
  obtain ⟨h0, hz, hB⟩ := hI
  have hn' : s q 0 = n := by rw [hz q (by simp), hm1]
  unfold hX0_makeProduct_28
  rw [hn']
  refine ⟨⟨by omega, by omega⟩, ⟨by omega, by omega⟩, fun e => ?_, fun e => ?_⟩
  · refine pX0_settle hf hg hn' (fun x y h1 h2 h3 h4 => by rw [hB x y h1 (by omega) h3 h4, hT x y h1 h2 h3 h4]) (fun m' hz' hc => h m' ?_ hc)
    refine zo_mono (zo_trans hz1 (zo_trans hz hz')) (fun p hp => ?_)
    grind
  · refine zp_for (H := fun jj y s' => hX0_makeProduct_39 f Φ (fun q0 v1 v2 v3 m => hX0_makeProduct_28 f Φ j q0 v1 v2 v3 m) jj q a b i y s') (N := n) (fun y s' => 0 ≤ y ∧ zo [1 :: q] m1 s' ∧ (∀ x z : Int, 0 ≤ x → x < i → 0 ≤ z → z < n → s' (1 :: q) (x * 12 + z).toNat = gPr a b x z) ∧ (∀ z : Int, 0 ≤ z → z < y → s' (1 :: q) (i * 12 + z).toNat = gPr a b i z)) ?_ f 0 s (by omega) (by omega) ⟨by omega, hz, hB, fun z h1 h2 => by omega⟩
    intro jj y s' hy hI' hs'
    obtain ⟨hy0, hz', hB', hR⟩ := hI'
    have hn2 : s' q 0 = n := by rw [hz' q (by simp), hm1]
    unfold hX0_makeProduct_39
    rw [hn2]
    have d1 := zd_div h0 hb
    have d2 := zd_div hy0 hb
    refine ⟨⟨by omega, by omega⟩, ⟨by omega, by omega⟩, fun e2 => ?_, fun e2 => ⟨⟨by omega, by omega⟩, ⟨by omega, by omega⟩, ⟨by omega, by omega⟩, ⟨by omega, by omega⟩, ⟨by omega, by omega⟩, ⟨by omega, by omega⟩, ⟨by omega, by omega⟩, ⟨by omega, by omega⟩, ⟨by omega, by omega⟩, ⟨by omega, by omega⟩, ⟨by omega, by omega⟩, ⟨by omega, by omega⟩, ⟨by omega, by omega⟩, ?_⟩⟩
    · refine hs (by omega) _ ⟨by omega, hz', fun x z h1 h2 h3 h4 => ?_⟩
      by_cases ex : x = i
      · subst ex; exact hR z h3 (by omega)
      · exact hB' x z h1 (by omega) h3 h4
    · rintro _ rfl
      refine hs' (by omega) _ ⟨by omega, zo_tr hz' (zo_u (by simp)), fun x z h1 h2 h3 h4 => ?_, fun z h1 h2 => ?_⟩
      · have : (x * 12 + z).toNat ≠ (i * 12 + y).toNat := by omega
        simp [aj_u, this, hB' x z h1 h2 h3 h4]
      · by_cases ez : z = y
        · subst ez; simp [aj_u, gPr]
        · have : (i * 12 + z).toNat ≠ (i * 12 + y).toNat := by omega
          simp [aj_u, this, hR z h1 (by omega)]
theorem gPr_1 {a d x y : Int} : gPr a 1 x y = gT 1 a d x y := by
  unfold gPr gT
  simp
theorem gPr_3 {a b x y : Int} : gPr a b x y = gT 3 a b x y := by
  unfold gPr gT
  simp
theorem pX0_makeQuaternions {f : Nat} {Φ : aj_M → Prop} {q : List Nat} {m : aj_M} {c d : Int} (hf : 20 ≤ f) (h : ∀ m', zo [q, 1 :: q, 2 :: q, 3 :: q] m m' → gC m' q 4 c d 8 → Φ m') : wX0_makeQuaternions f Φ q m := by
  have hg : gOK 4 c d 8 := Or.inr (Or.inr (Or.inr ⟨rfl, rfl⟩))
  unfold wX0_makeQuaternions
  rintro m1 e1
  have hm1 : m1 q 0 = 8 := by rw [e1]; simp [aj_u]
  have hz1 : zo [q, 1 :: q, 2 :: q, 3 :: q] m m1 := by rw [e1]; exact zo_u (by simp)
  have ax : ∀ x : Int, 0 ≤ x → x < 16 → 0 ≤ aj_axv x.toNat ∧ aj_axv x.toNat < 8 := by
    intro x h1 h2
    exact co_dec (N := 16) (P := fun j => 0 ≤ aj_axv j ∧ aj_axv j < 8) (by decide) (by omega)
  have hQ : ∀ x y : Int, 0 ≤ x → x < 8 → 0 ≤ y → y < 8 → (aj_axv (x % 4 * 4 + y % 4).toNat + x / 4 * 4 + y / 4 * 4) % 8 = gT 4 c d x y := by
    intro x y h1 h2 h3 h4
    have e := co_dec (N := 64) (P := fun i => (aj_axv (((i / 8 : Nat) : Int) % 4 * 4 + ((i % 8 : Nat) : Int) % 4).toNat + ((i / 8 : Nat) : Int) / 4 * 4 + ((i % 8 : Nat) : Int) / 4 * 4) % 8 = gT 4 0 0 ((i / 8 : Nat) : Int) ((i % 8 : Nat) : Int)) (by decide +kernel) (i := x.toNat * 8 + y.toNat) (by omega)
    rw [show (x.toNat * 8 + y.toNat) / 8 = x.toNat by omega, show (x.toNat * 8 + y.toNat) % 8 = y.toNat by omega] at e
    rw [gT_4]
    rwa [show ((x.toNat : Nat) : Int) = x by omega, show ((y.toNat : Nat) : Int) = y by omega] at e
  refine zp_for (H := fun j i s => hX0_makeQuaternions_8 f Φ j q i s) (N := 8) (fun i s => 0 ≤ i ∧ zo [1 :: q] m1 s ∧ (∀ x y : Int, 0 ≤ x → x < i → 0 ≤ y → y < 8 → s (1 :: q) (x * 12 + y).toNat = gT 4 c d x y)) ?_ f 0 m1 (by omega) (by omega) ⟨by omega, zo_refl, fun x y h1 h2 => by omega⟩
  intro j i s hi hI hs
  obtain ⟨h0, hz, hB⟩ := hI
  have hn' : s q 0 = 8 := by rw [hz q (by simp), hm1]
  unfold hX0_makeQuaternions_8
  rw [hn']
  refine ⟨⟨by omega, by omega⟩, ⟨by omega, by omega⟩, fun e => ?_, fun e => ?_⟩
  · refine pX0_settle hf hg hn' (fun x y h1 h2 h3 h4 => hB x y h1 (by omega) h3 h4) (fun m' hz' hc => h m' ?_ hc)
    refine zo_mono (zo_trans hz1 (zo_trans hz hz')) (fun p hp => ?_)
    grind
  · refine zp_for (H := fun jj y s' => hX0_makeQuaternions_18 f Φ (fun q0 v1 m => hX0_makeQuaternions_8 f Φ j q0 v1 m) jj q i y s') (N := 8) (fun y s' => 0 ≤ y ∧ zo [1 :: q] m1 s' ∧ (∀ x z : Int, 0 ≤ x → x < i → 0 ≤ z → z < 8 → s' (1 :: q) (x * 12 + z).toNat = gT 4 c d x z) ∧ (∀ z : Int, 0 ≤ z → z < y → s' (1 :: q) (i * 12 + z).toNat = gT 4 c d i z)) ?_ f 0 s (by omega) (by omega) ⟨by omega, hz, hB, fun z h1 h2 => by omega⟩
    intro jj y s' hy hI' hs'
    obtain ⟨hy0, hz', hB', hR⟩ := hI'
    have hn2 : s' q 0 = 8 := by rw [hz' q (by simp), hm1]
    unfold hX0_makeQuaternions_18
    rw [hn2]
    have hax := ax (i % 4 * 4 + y % 4) (by omega) (by omega)
    refine ⟨⟨by omega, by omega⟩, ⟨by omega, by omega⟩, fun e2 => ?_, fun e2 => ⟨⟨by omega, by omega⟩, ⟨by omega, by omega⟩, ⟨by omega, by omega⟩, ⟨by omega, by omega⟩, ⟨by omega, by omega⟩, ⟨by omega, by omega⟩, ⟨by omega, by omega⟩, ?_⟩⟩
    · refine hs (by omega) _ ⟨by omega, hz', fun x z h1 h2 h3 h4 => ?_⟩
      by_cases ex : x = i
      · subst ex; exact hR z h3 (by omega)
      · exact hB' x z h1 (by omega) h3 h4
    · rintro _ rfl
      refine hs' (by omega) _ ⟨by omega, zo_tr hz' (zo_u (by simp)), fun x z h1 h2 h3 h4 => ?_, fun z h1 h2 => ?_⟩
      · have : (x * 12 + z).toNat ≠ (i * 12 + y).toNat := by omega
        simp [aj_u, this, hB' x z h1 h2 h3 h4]
      · by_cases ez : z = y
        · subst ez; simp only [aj_u, and_self, if_true]; exact hQ i z h0 (by omega) hy0 (by omega)
        · have : (i * 12 + z).toNat ≠ (i * 12 + y).toNat := by omega
          simp [aj_u, this, hR z h1 (by omega)]
def gMi (n x y : Int) : Int := (if n ≤ x then x - y % n + n else x + y % n) % n + (if (n ≤ x ∧ ¬ n ≤ y) ∨ (¬ n ≤ x ∧ n ≤ y) then n else 0)
theorem gMi_2 {n d x y : Int} (hn : 1 ≤ n) : gMi n x y = gT 2 n d x y := by
  have e0 : gT 2 n d x y = if x < n then (x + y % n) % n + (if y < n then 0 else n) else (x - n - y % n) % n + (if y < n then n else 0) := by simp [gT]
  rw [e0]
  unfold gMi
  by_cases c : n ≤ x
  · have e : (x - y % n + n) % n = (x - n - y % n) % n := by
      rw [show x - y % n + n = (x - n - y % n) + n + n by omega, Int.add_emod_right, Int.add_emod_right]
    by_cases c2 : n ≤ y
    · rw [if_pos c, if_neg (show ¬ ((n ≤ x ∧ ¬ n ≤ y) ∨ (¬ n ≤ x ∧ n ≤ y)) by omega), if_neg (show ¬ x < n by omega), if_neg (show ¬ y < n by omega), e]
    · rw [if_pos c, if_pos (show (n ≤ x ∧ ¬ n ≤ y) ∨ (¬ n ≤ x ∧ n ≤ y) by omega), if_neg (show ¬ x < n by omega), if_pos (show y < n by omega), e]
  · by_cases c2 : n ≤ y
    · rw [if_neg c, if_pos (show (n ≤ x ∧ ¬ n ≤ y) ∨ (¬ n ≤ x ∧ n ≤ y) by omega), if_pos (show x < n by omega), if_neg (show ¬ y < n by omega)]
    · rw [if_neg c, if_neg (show ¬ ((n ≤ x ∧ ¬ n ≤ y) ∨ (¬ n ≤ x ∧ n ≤ y)) by omega), if_pos (show x < n by omega), if_pos (show y < n by omega)]
theorem pX0_makeMirrors {f : Nat} {Φ : aj_M → Prop} {q : List Nat} {m : aj_M} {n d : Int} (hf : 20 ≤ f) (ha : 1 ≤ n) (hb : n ≤ 6) (h : ∀ m', zo [q, 1 :: q, 2 :: q, 3 :: q] m m' → gC m' q 2 n d (2 * n) → Φ m') : wX0_makeMirrors f Φ q n m := by
  have hg : gOK 2 n d (2 * n) := Or.inr (Or.inl ⟨rfl, ha, hb, rfl⟩)
  unfold wX0_makeMirrors
  refine ⟨⟨by omega, by omega⟩, fun e => by omega, fun _ => ⟨⟨by omega, by omega⟩, fun _ => ?_, fun e => by omega⟩⟩
  rintro m1 e1
  have hm1 : m1 q 0 = 2 * n := by rw [e1]; simp [aj_u]
  have hz1 : zo [q, 1 :: q, 2 :: q, 3 :: q] m m1 := by rw [e1]; exact zo_u (by simp)
  refine zp_for (H := fun j i s => hX0_makeMirrors_23 f Φ j q n i s) (N := 2 * n) (fun i s => 0 ≤ i ∧ zo [1 :: q] m1 s ∧ (∀ x y : Int, 0 ≤ x → x < i → 0 ≤ y → y < 2 * n → s (1 :: q) (x * 12 + y).toNat = gMi n x y)) ?_ f 0 m1 (by omega) (by omega) ⟨by omega, zo_refl, fun x y h1 h2 => by omega⟩
  intro j i s hi hI hs
  obtain ⟨h0, hz, hB⟩ := hI
  have hn' : s q 0 = 2 * n := by rw [hz q (by simp), hm1]
  unfold hX0_makeMirrors_23
  rw [hn']
  refine ⟨⟨by omega, by omega⟩, ⟨by omega, by omega⟩, fun e => ?_, fun e => ?_⟩
  · refine pX0_settle hf hg hn' (fun x y h1 h2 h3 h4 => by rw [hB x y h1 (by omega) h3 h4]; exact gMi_2 ha) (fun m' hz' hc => h m' ?_ hc)
    refine zo_mono (zo_trans hz1 (zo_trans hz hz')) (fun p hp => ?_)
    grind
  · refine zp_for (H := fun jj y s' => hX0_makeMirrors_33 f Φ (fun q0 v1 v2 m => hX0_makeMirrors_23 f Φ j q0 v1 v2 m) jj q n i y s') (N := 2 * n) (fun y s' => 0 ≤ y ∧ zo [1 :: q] m1 s' ∧ (∀ x z : Int, 0 ≤ x → x < i → 0 ≤ z → z < 2 * n → s' (1 :: q) (x * 12 + z).toNat = gMi n x z) ∧ (∀ z : Int, 0 ≤ z → z < y → s' (1 :: q) (i * 12 + z).toNat = gMi n i z)) ?_ f 0 s (by omega) (by omega) ⟨by omega, hz, hB, fun z h1 h2 => by omega⟩
    intro jj y s' hy hI' hs'
    obtain ⟨hy0, hz', hB', hR⟩ := hI'
    have hn2 : s' q 0 = 2 * n := by rw [hz' q (by simp), hm1]
    unfold hX0_makeMirrors_33
    rw [hn2]
    have d2 := zd_div hy0 ha
    have key : ∀ v : Int, v = gMi n i y → y < 2 * n → hX0_makeMirrors_33 f Φ (fun q0 v1 v2 m => hX0_makeMirrors_23 f Φ j q0 v1 v2 m) jj q n i (y + 1) (aj_u s' (1 :: q) (i * 12 + y).toNat v) := by
      rintro v rfl hy2
      refine hs' hy2 _ ⟨by omega, zo_tr hz' (zo_u (by simp)), fun x z h1 h2 h3 h4 => ?_, fun z h1 h2 => ?_⟩
      · have : (x * 12 + z).toNat ≠ (i * 12 + y).toNat := by omega
        simp [aj_u, this, hB' x z h1 h2 h3 h4]
      · by_cases ez : z = y
        · subst ez; simp [aj_u]
        · have : (i * 12 + z).toNat ≠ (i * 12 + y).toNat := by omega
          simp [aj_u, this, hR z h1 (by omega)]
    refine ⟨⟨by omega, by omega⟩, ⟨by omega, by omega⟩, fun e2 => ?_, fun e2 => ⟨⟨by omega, by omega⟩, ⟨by omega, by omega⟩, fun c => ⟨⟨by omega, by omega⟩, ⟨by omega, by omega⟩, ?_⟩, fun c => ⟨⟨by omega, by omega⟩, ⟨by omega, by omega⟩, ?_⟩⟩⟩
    · refine hs (by omega) _ ⟨by omega, hz', fun x z h1 h2 h3 h4 => ?_⟩
      by_cases ex : x = i
      · subst ex; exact hR z h3 (by omega)
      · exact hB' x z h1 (by omega) h3 h4
    · unfold hX0_makeMirrors_61
      refine ⟨⟨by omega, by omega⟩, ⟨by omega, by omega⟩, fun _ => ⟨⟨by omega, by omega⟩, ⟨by omega, by omega⟩, fun c2 => ?_, fun c2 => ?_⟩, fun c' => absurd c c'⟩
      · unfold hX0_makeMirrors_91
        refine ⟨⟨by omega, by omega⟩, ⟨by omega, by omega⟩, by decide, fun _ => ⟨⟨by omega, by omega⟩, ?_⟩, fun e => absurd rfl e⟩
        rintro _ rfl
        exact key _ (by unfold gMi; rw [if_pos c, if_neg (by omega)]) (by omega)
      · unfold hX0_makeMirrors_91
        refine ⟨⟨by omega, by omega⟩, ⟨by omega, by omega⟩, by decide, fun e => absurd e (by decide), fun _ => ⟨⟨by omega, by omega⟩, ?_⟩⟩
        rintro _ rfl
        exact key _ (by unfold gMi; rw [if_pos c, if_pos (by omega)]) (by omega)
    · unfold hX0_makeMirrors_61
      refine ⟨⟨by omega, by omega⟩, ⟨by omega, by omega⟩, fun c' => absurd c' c, fun _ => ⟨⟨by omega, by omega⟩, ⟨by omega, by omega⟩, fun c2 => ?_, fun c2 => ?_⟩⟩
      · unfold hX0_makeMirrors_91
        refine ⟨⟨by omega, by omega⟩, ⟨by omega, by omega⟩, by decide, fun e => absurd e (by decide), fun _ => ⟨⟨by omega, by omega⟩, ?_⟩⟩
        rintro _ rfl
        exact key _ (by unfold gMi; rw [if_neg c, if_pos (by omega)]) (by omega)
      · unfold hX0_makeMirrors_91
        refine ⟨⟨by omega, by omega⟩, ⟨by omega, by omega⟩, by decide, fun _ => ⟨⟨by omega, by omega⟩, ?_⟩, fun e => absurd rfl e⟩
        rintro _ rfl
        exact key _ (by unfold gMi; rw [if_neg c, if_neg (by omega)]) (by omega)
