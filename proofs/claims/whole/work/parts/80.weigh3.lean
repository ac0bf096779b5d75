/-! WEIGH, both -/
def zMo (A : Nat → Int) (b a x : Nat) : Int := ((zMp (zMw A b a x) 10 : Nat) : Int)
theorem zMo_b {A : Nat → Int} {b a x : Nat} : 0 ≤ zMo A b a x ∧ zMo A b a x ≤ 10 := by
  have := zMp_b (w := zMw A b a x) 10
  unfold zMo
  omega
def zWgs (A : Nat → Int) (b a x : Nat) (s : Int × Int) : Int × Int := if zMo A b a x < s.2 then (100 * a + x, zMo A b a x) else s
def zWgi (A : Nat → Int) (b a : Nat) (s : Int × Int) : Nat → Int × Int
  | 0 => s
  | x + 1 => zWgs A b a x (zWgi A b a s x)
def zWgo (A : Nat → Int) (b : Nat) (s : Int × Int) : Nat → Int × Int
  | 0 => s
  | a + 1 => zWgi A b a (zWgo A b s a) (A 4).toNat
def zWgr (s s' : Int × Int) : Prop := (s = s' ∧ 0 ≤ s.2 ∧ s.2 ≤ 10) ∨ (s = (-1, 11) ∧ s' = (-1, 268435456))
theorem zWgr_s {A : Nat → Int} {b a x : Nat} {s s' : Int × Int} (h : zWgr s s') : zWgr (zWgs A b a x s) (zWgs A b a x s') := by
  have hb := zMo_b (A := A) (b := b) (a := a) (x := x)
  rcases h with ⟨rfl, h1, h2⟩ | ⟨rfl, rfl⟩
  · refine Or.inl ⟨rfl, ?_⟩
    unfold zWgs
    split
    · exact hb
    · exact ⟨h1, h2⟩
  · refine Or.inl ?_
    unfold zWgs
    rw [if_pos (by show zMo A b a x < 11; omega), if_pos (by show zMo A b a x < 268435456; omega)]
    exact ⟨rfl, hb⟩
theorem zWgr_i {A : Nat → Int} {b a : Nat} {s s' : Int × Int} (h : zWgr s s') : ∀ x, zWgr (zWgi A b a s x) (zWgi A b a s' x)
  | 0 => h
  | x + 1 => zWgr_s (zWgr_i h x)
theorem zWgr_o {A : Nat → Int} {b : Nat} {s s' : Int × Int} (h : zWgr s s') : ∀ a, zWgr (zWgo A b s a) (zWgo A b s' a)
  | 0 => h
  | a + 1 => zWgr_i (zWgr_o h a) _
theorem zWgr_1 {s s' : Int × Int} (h : zWgr s s') : s.1 = s'.1 ∧ (0 ≤ s.2 ∧ s.2 ≤ 11) ∧ (0 ≤ s'.2 ∧ s'.2 ≤ 268435456) := by
  rcases h with ⟨rfl, h1, h2⟩ | ⟨rfl, rfl⟩
  · exact ⟨rfl, ⟨h1, by omega⟩, h1, by omega⟩
  · exact ⟨rfl, by decide, by decide⟩
theorem zWgr_0 : zWgr (-1, 11) (-1, 268435456) := Or.inr ⟨rfl, rfl⟩
def zWgc (A : Nat → Int) (b : Nat) : Nat → Int × Int := zWgo A b (-1, 11)
def zWgm (A : Nat → Int) (b : Nat) : Nat → Int × Int := zWgo A b (-1, 268435456)
theorem hX11_we44 {f : Nat} {Φ : Int → aj_M → Prop} {K : List Nat → Int → Int → Int → Int → aj_M → Prop} {m0 : aj_M} {A : Nat → Int} {b a : Nat} {s : Int × Int} (hf : 1000 ≤ f) (hA : wA A) (hP : wP m0 [1, 0] A) (hb : b < 1024) (ha : (a : Int) < A 6) (hs : ∀ x, 0 ≤ (zWgi A b a s x).2 ∧ (zWgi A b a s x).2 ≤ 11) (h : ∀ m', zo zMl m0 m' → K [0] b (zWgi A b a s (A 4).toNat).1 (zWgi A b a s (A 4).toNat).2 ((a : Int) + 1) m') : ∀ (k x : Nat) (m : aj_M), x ≤ (A 4).toNat → (A 4).toNat - x < k → zo zMl m0 m → hX11_weigh_44 f Φ K k [0] b (zWgi A b a s x).1 (zWgi A b a s x).2 a (x : Int) m := by
  have h12 := gOK_n hA.1
  intro k
  induction k with
  | zero => intro x m h1 h2; omega
  | succ k ih =>
    intro x m h1 h2 z
    have hP' := zMl_P z hP
    have hsx := hs x
    unfold hX11_weigh_44
    rw [hP'.1.1]
    refine ⟨⟨by omega, by omega⟩, rI_gOK hA.1, fun c => ?_, fun c => ?_⟩
    · have ex : x = (A 4).toNat := by omega
      rw [ex]
      exact h m z
    · refine pX11_mostAlike hf hA hP' hb ha ⟨by omega, by omega⟩ (fun m1 z1 => ?_)
      have hm := zMo_b (A := A) (b := b) (a := a) (x := x)
      have ih' := ih (x + 1) m1 (by omega) (by omega) (zo_t z z1)
      rw [zWgi, zWgs] at ih'
      show rI (zMo A b a x) ∧ rI (zWgi A b a s x).2 ∧ ((zWgi A b a s x).2 ≤ zMo A b a x → _) ∧ (¬ ((zWgi A b a s x).2 ≤ zMo A b a x) → _)
      refine ⟨⟨by omega, by omega⟩, ⟨by omega, by omega⟩, fun c => ?_, fun c => ?_⟩
      · rw [if_neg (by omega)] at ih'
        exact ih'
      · rw [if_pos (by omega)] at ih'
        exact ih'
theorem hX11_we29 {f : Nat} {Φ : Int → aj_M → Prop} {m0 : aj_M} {A : Nat → Int} {b : Nat} (hf : 1000 ≤ f) (hA : wA A) (hP : wP m0 [1, 0] A) (hb : b < 1024) (h : ∀ m', zo zMl m0 m' → Φ (zWgc A b (A 6).toNat).1 m') : ∀ (k a : Nat) (m : aj_M), a ≤ (A 6).toNat → (A 6).toNat - a < k → zo zMl m0 m → hX11_weigh_29 f Φ k [0] b (zWgc A b a).1 (zWgc A b a).2 (a : Int) m := by
  have h12 := gOK_n hA.1
  have h6 := hA.2.2.1
  intro k
  induction k with
  | zero => intro a m h1 h2; omega
  | succ k ih =>
    intro a m h1 h2 z
    have hP' := zMl_P z hP
    unfold hX11_weigh_29
    rw [hP'.2.2.1]
    refine ⟨⟨by omega, by omega⟩, ⟨by omega, by omega⟩, fun c => ?_, fun c => ?_⟩
    · have ea : a = (A 6).toNat := by omega
      rw [ea]
      exact h m z
    · refine hX11_we44 hf hA hP' hb (by omega) (s := zWgc A b a) (fun x => (zWgr_1 (zWgr_i (zWgr_o zWgr_0 a) x)).2.1) ?_ f 0 m (by omega) (by omega) (fun p _ => rfl)
      intro m1 z1
      exact ih (a + 1) m1 (by omega) (by omega) (zo_t z z1)
def tWe (A : Nat → Int) (b : Int) : Int := if 0 < b then (zWgc A b.toNat (A 6).toNat).1 else if b = 0 then -1 else b
theorem tTs_b {A N : Nat → Int} {V : Nat → Nat → Int} {v : Int} : -6 ≤ tTs A N V v ∧ tTs A N V v < 1024 := by
  unfold tTs
  split
  · unfold tTw
    split
    · split
      · have := twB_b (A := A) (U := V v.toNat) (n := (N v.toNat).toNat) 10
        omega
      · decide
    · decide
  · unfold tA
    split
    · split <;> decide
    · decide
theorem pX11_weigh {f : Nat} {Φ : Int → aj_M → Prop} {v : Int} {m : aj_M} {A : Nat → Int} {S N : Nat → Int} {V : Nat → Nat → Int} (hf : 1000 ≤ f) (hA : wA A) (hP : wP m [1, 0] A) (hO : tO S N V) (hC : tC m S N V) (hv : rI v) (h : ∀ m', zo zMl m m' → Φ (tWe A (tTs A N V v)) m') : wX11_weigh f Φ [0] v m := by
  have h6 := hA.2.2.1
  refine pX11_twists hf hA hP hO hC hv (fun m1 z1 => ?_)
  have tb := tTs_b (A := A) (N := N) (V := V) (v := v)
  have z1' : zo zMl m m1 := zo_m z1 (fun p hp => by
    have : p = [6, 1, 1, 0] := by simpa [zTwl] using hp
    rw [this]
    decide)
  refine ⟨⟨by omega, by omega⟩, fun c => ?_, fun c => ⟨⟨by omega, by omega⟩, fun d => ?_, fun d => ?_⟩⟩
  · rw [tWe, if_pos c] at h
    obtain ⟨b, hb⟩ : ∃ b : Nat, tTs A N V v = b := ⟨(tTs A N V v).toNat, by omega⟩
    rw [hb, Int.toNat_natCast] at h
    rw [hb] at tb ⊢
    exact hX11_we29 hf hA hP (by omega) h f 0 m1 (by omega) (by omega) z1'
  · rw [tWe, if_neg c, if_neg d] at h
    exact h m1 z1'
  · rw [tWe, if_neg c, if_pos d] at h
    exact h m1 z1'
/-- the reference -/
theorem hX12_we53 {f : Nat} {Φ : Int → aj_M → Prop} {K : List Nat → Int → Int → Int → Int → aj_M → Prop} {m0 : aj_M} {A : Nat → Int} {b a : Nat} {s : Int × Int} (hf : 1000 ≤ f) (hA : wA A) (hm : ∀ j, j < 1105 → m0 [1, 1] j = A j) (hb : b < 1024) (ha : (a : Int) < A 6) (hs : ∀ x, 0 ≤ (zWgi A b a s x).2 ∧ (zWgi A b a s x).2 ≤ 268435456) (h : ∀ m', zo rMl m0 m' → K [1] b (zWgi A b a s (A 4).toNat).1 (zWgi A b a s (A 4).toNat).2 ((a : Int) + 1) m') : ∀ (k x : Nat) (m : aj_M), x ≤ (A 4).toNat → (A 4).toNat - x < k → zo rMl m0 m → hX12_weigh_53 f Φ K k [1] b (zWgi A b a s x).1 (zWgi A b a s x).2 a (x : Int) m := by
  have h12 := gOK_n hA.1
  intro k
  induction k with
  | zero => intro x m h1 h2; omega
  | succ k ih =>
    intro x m h1 h2 z
    have t3 : m [1, 1] = m0 [1, 1] := z _ (by decide)
    have hsx := hs x
    have h4 : m [1, 1] (4 : Int).toNat = A 4 := by rw [t3]; exact hm 4 (by decide)
    unfold hX12_weigh_53
    rw [h4]
    refine ⟨⟨by omega, by omega⟩, rI_gOK hA.1, fun c => ?_, fun c => ?_⟩
    · have ex : x = (A 4).toNat := by omega
      rw [ex]
      exact h m z
    · refine pX12_mostAlike hf hA (fun j hj => by rw [t3]; exact hm j hj) hb ha ⟨by omega, by omega⟩ (fun m1 z1 => ?_)
      have hmo := zMo_b (A := A) (b := b) (a := a) (x := x)
      have ih' := ih (x + 1) m1 (by omega) (by omega) (zo_t z z1)
      rw [zWgi, zWgs] at ih'
      show rI (zMo A b a x) ∧ rI (zWgi A b a s x).2 ∧ (zMo A b a x < (zWgi A b a s x).2 → _) ∧ (¬ (zMo A b a x < (zWgi A b a s x).2) → _)
      refine ⟨⟨by omega, by omega⟩, ⟨by omega, by omega⟩, fun c => ?_, fun c => ?_⟩
      · rw [if_pos c] at ih'
        exact ih'
      · rw [if_neg c] at ih'
        exact ih'
theorem hX12_we34 {f : Nat} {Φ : Int → aj_M → Prop} {m0 : aj_M} {A : Nat → Int} {b : Nat} (hf : 1000 ≤ f) (hA : wA A) (hm : ∀ j, j < 1105 → m0 [1, 1] j = A j) (hb : b < 1024) (hb0 : 0 < b) (h : ∀ m', zo rMl m0 m' → Φ (zWgm A b (A 6).toNat).1 m') : ∀ (k a : Nat) (m : aj_M), a ≤ (A 6).toNat → (A 6).toNat - a < k → zo rMl m0 m → hX12_weigh_34 f Φ k [1] b (zWgm A b a).1 (zWgm A b a).2 (a : Int) m := by
  have h12 := gOK_n hA.1
  have h6 := hA.2.2.1
  intro k
  induction k with
  | zero => intro a m h1 h2; omega
  | succ k ih =>
    intro a m h1 h2 z
    have t3 : m [1, 1] = m0 [1, 1] := z _ (by decide)
    have h4 : m [1, 1] (6 : Int).toNat = A 6 := by rw [t3]; exact hm 6 (by decide)
    unfold hX12_weigh_34
    rw [h4]
    refine ⟨⟨by omega, by omega⟩, ⟨by omega, by omega⟩, fun c => ?_, fun c => ⟨⟨by omega, by omega⟩, fun d => by omega, fun d => ?_⟩⟩
    · have ea : a = (A 6).toNat := by omega
      rw [ea]
      exact h m z
    · refine hX12_we53 hf hA (fun j hj => by rw [t3]; exact hm j hj) hb (by omega) (s := zWgm A b a) (fun x => (zWgr_1 (zWgr_i (zWgr_o zWgr_0 a) x)).2.2) ?_ f 0 m (by omega) (by omega) (fun p _ => rfl)
      intro m1 z1
      exact ih (a + 1) m1 (by omega) (by omega) (zo_t z z1)
theorem pX12_weigh {f : Nat} {Φ : Int → aj_M → Prop} {v : Int} {m : aj_M} {A : Nat → Int} {S N : Nat → Int} {V : Nat → Nat → Int} (hf : 1000 ≤ f) (hA : wA A) (hm : ∀ j, j < 1105 → m [1, 1] j = A j) (hO : tO S N V) (hR : tR m S N V) (hv : rI v) (h : ∀ m', zo rMl (rZ m) m' → Φ (tWe A (tTs A N V v)) m') : wX12_weigh f Φ [1] v m := by
  rintro m1 rfl
  have h6 := hA.2.2.1
  have hm := hm_rZ hm
  have hR := tR_rZ hR
  have hid : zo rMl (rZ m) (rZ m) := fun p _ => rfl
  have tb := tTs_b (A := A) (N := N) (V := V) (v := v)
  refine pX12_noWeighed (by omega) hA hm hO hR hv (fun c => ⟨tA_r, fun d => absurd d c, fun _ => ?_⟩) (fun t et ht hn c => ⟨tNe_r, fun d => ?_, fun d => ?_⟩)
  · have := tA_n c
    rw [tTs, if_neg c, tWe, if_neg (by omega), if_neg c] at h
    exact h _ hid
  · subst et
    rw [tTs, if_pos c, Int.toNat_natCast, tNe_tw, if_pos d] at h tb
    refine pX12_twistsOf hf hA hm hO hR ht hn d (fun m2 z2 => ?_)
    have z2' : zo rMl (rZ m) m2 := zo_m z2 (fun p hp => by
      have : p = [17, 1] ∨ p = [16, 1] := by simpa [rTwl] using hp
      rcases this with e | e <;> (rw [e]; decide))
    generalize hb : twB A (V t) (N t).toNat 10 = b at h tb ⊢
    by_cases e0 : b = 0
    · subst e0
      have h : Φ (-1) m2 := h m2 z2'
      obtain ⟨g, rfl⟩ : ∃ g, f = g + 1 := ⟨f - 1, by omega⟩
      have t3 : m2 [1, 1] = rZ m [1, 1] := z2' _ (by decide)
      have h4 : m2 [1, 1] (6 : Int).toNat = A 6 := by rw [t3]; exact hm 6 (by decide)
      unfold hX12_weigh_34
      rw [h4]
      exact ⟨by decide, ⟨by omega, by omega⟩, fun _ => h, fun _ => ⟨by decide, fun _ => h, fun x => absurd rfl x⟩⟩
    · rw [tWe, if_pos (by omega), Int.toNat_natCast, zWgc, (zWgr_1 (zWgr_o (A := A) (b := b) zWgr_0 (A 6).toNat)).1] at h
      exact hX12_we34 hf hA hm (by omega) (by omega) h f 0 m2 (by omega) (by omega) z2'
  · subst et
    have hneg : tNe A (N t) (V t) < 0 := by
      unfold tNe at d ⊢
      split
      · split
        · rename_i p q
          rw [if_pos p, if_pos q] at d
          exact absurd rfl d
        · decide
      · decide
    rw [tTs, if_pos c, Int.toNat_natCast, tNe_tw, if_neg d, tWe, if_neg (by omega), if_neg d] at h
    exact h _ hid
