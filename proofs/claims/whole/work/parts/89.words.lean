/-! WORDS OF THE TAPE -/
def zIs (a : Nat → Int) (len : Nat) (w : List Int) : Bool := decide (w.length = len ∧ ∀ i, i < len → a i = w.getD i 0)
theorem zIs_iff {a : Nat → Int} {len : Nat} {w : List Int} : zIs a len w = true ↔ (w.length = len ∧ ∀ i, i < len → a i = w.getD i 0) := decide_eq_true_iff
def zWf (a : Nat → Int) (len : Nat) (d : Int) : List (List Int) → Int → Int
  | [], _ => d
  | w :: ws, k => if zIs a len w = true then k else zWf a len d ws (k + 1)
/-- the words in the order of the reference -/
def zKw : List (List Int) := [[119, 111, 114, 107, 115], [99, 121, 99, 108, 105, 99], [109, 105, 114, 114, 111, 114, 115], [112, 114, 111, 100, 117, 99, 116], [113, 117, 97, 116, 101, 114, 110, 105, 111, 110, 115], [116, 119, 105, 115, 116], [112, 108, 97, 99, 101, 115], [97, 114, 99], [98, 121], [104, 97, 108, 102], [107, 101, 101, 112, 115], [119, 101, 105, 103, 104, 115], [105, 102], [116, 104, 101, 110], [101, 108, 115, 101], [101, 110, 100], [102, 114, 111, 109], [116, 111], [109, 101, 109, 98, 101, 114], [97, 110, 100], [111, 114], [110, 111, 116]]
/-- the words in the order of the class -/
def zCo : List (List Int) := [[119, 111, 114, 107, 115], [99, 121, 99, 108, 105, 99], [109, 105, 114, 114, 111, 114, 115], [112, 114, 111, 100, 117, 99, 116], [113, 117, 97, 116, 101, 114, 110, 105, 111, 110, 115], [116, 119, 105, 115, 116], [112, 108, 97, 99, 101, 115], [97, 114, 99], [104, 97, 108, 102], [98, 121], [107, 101, 101, 112, 115], [119, 101, 105, 103, 104, 115], [105, 102], [116, 104, 101, 110], [101, 108, 115, 101], [101, 110, 100], [102, 114, 111, 109], [116, 111], [109, 101, 109, 98, 101, 114], [110, 111, 116], [97, 110, 100], [111, 114]]
/-- the class's token for the reference's -/
def cT (k : Int) : Int := if k = 8 then 209 else if k = 9 then 208 else if k = 19 then 220 else if k = 20 then 221 else if k = 21 then 219 else if k = 22 then 199 else if k = 23 then 2 else if k = 24 then 1 else if k = 25 then 0 else if k < 22 then 200 + k else ([59, 58, 43, 45, 42, 40, 41, 91, 93, 61, 60, 62] : List Int).getD (k - 30).toNat 0
def zFi (w : List Int) (d : Int) : List (List Int) → Int → Int
  | [], _ => d
  | u :: ws, k => if u = w then k else zFi w d ws (k + 1)
theorem zIs_eq {a : Nat → Int} {len : Nat} {u w : List Int} (hw : zIs a len w = true) : zIs a len u = true ↔ u = w := by
  constructor
  · intro hu
    obtain ⟨h1, h2⟩ := zIs_iff.mp hw
    obtain ⟨g1, g2⟩ := zIs_iff.mp hu
    apply List.ext_getElem (by omega)
    intro i p1 p2
    have e1 := h2 i (by omega)
    have e2 := g2 i (by omega)
    simp only [List.getD_eq_getElem?_getD, List.getElem?_eq_getElem p1, List.getElem?_eq_getElem p2, Option.getD_some] at e1 e2
    omega
  · rintro rfl
    exact hw
theorem zWf_fi {a : Nat → Int} {len : Nat} {w : List Int} {d : Int} (hw : zIs a len w = true) : ∀ (ws : List (List Int)) (k : Int), zWf a len d ws k = zFi w d ws k
  | [], _ => rfl
  | u :: ws, k => by
    unfold zWf zFi
    rw [zWf_fi hw ws (k + 1)]
    by_cases c : u = w
    · rw [if_pos c, if_pos ((zIs_eq hw).mpr c)]
    · rw [if_neg c, if_neg (fun h => c ((zIs_eq hw).mp h))]
theorem zWf_no {a : Nat → Int} {len : Nat} {d : Int} : ∀ (ws : List (List Int)) (k : Int), (∀ w, w ∈ ws → ¬ zIs a len w = true) → zWf a len d ws k = d
  | [], _, _ => rfl
  | u :: ws, k, h => by
    unfold zWf
    rw [if_neg (h u (by simp)), zWf_no ws (k + 1) (fun w hw => h w (by simp [hw]))]
theorem zWf_cr {a : Nat → Int} {len : Nat} : zWf a len 199 zCo 200 = cT (zWf a len 22 zKw 0) := by
  by_cases c : ∃ w, w ∈ zKw ∧ zIs a len w = true
  · obtain ⟨w, h1, h2⟩ := c
    rw [zWf_fi h2, zWf_fi h2]
    have : ∀ w, w ∈ zKw → zFi w 199 zCo 200 = cT (zFi w 22 zKw 0) := by decide
    exact this w h1
  · rw [zWf_no zKw 0 (fun w hw h => c ⟨w, hw, h⟩), zWf_no zCo 200 (fun w hw h => c ⟨w, ?_, h⟩)]
    · rfl
    · have : ∀ w, w ∈ zCo → w ∈ zKw := by decide
      exact this w hw
theorem zWf_b {a : Nat → Int} {len : Nat} {d : Int} : ∀ (ws : List (List Int)) (k : Int), zWf a len d ws k = d ∨ (k ≤ zWf a len d ws k ∧ zWf a len d ws k < k + ws.length)
  | [], _ => Or.inl rfl
  | u :: ws, k => by
    unfold zWf
    split
    · exact Or.inr ⟨by omega, by simp only [List.length_cons]; omega⟩
    · rcases zWf_b (a := a) (len := len) (d := d) ws (k + 1) with h | h
      · exact Or.inl h
      · exact Or.inr ⟨by omega, by simp only [List.length_cons]; omega⟩
/-! the class's row of words -/
def zL0 : List Int := [119, 111, 114, 107, 115, 32, 99, 121, 99, 108, 105, 99, 32, 109, 105, 114, 114, 111, 114, 115, 32, 112, 114, 111, 100, 117, 99, 116, 32, 113, 117, 97, 116, 101, 114, 110, 105, 111, 110, 115, 32, 116, 119, 105, 115, 116, 32, 112, 108, 97, 99, 101, 115, 32, 97, 114, 99, 32, 104, 97, 108, 102, 32, 98, 121, 32, 107, 101, 101, 112, 115, 32, 119, 101, 105, 103, 104, 115, 32, 105, 102, 32, 116, 104, 101, 110, 32, 101, 108, 115, 101, 32, 101, 110, 100, 32, 102, 114, 111, 109, 32, 116, 111, 32, 109, 101, 109, 98, 101, 114, 32, 110, 111, 116, 32, 97, 110, 100, 32, 111, 114]
def zL1 : List Int := [59, 58, 43, 45, 42, 40, 41, 91, 93, 61, 60, 62]
def zL2 : List Int := [32, 119, 111, 114, 107, 115, 32, 99, 121, 99, 108, 105, 99, 32, 109, 105, 114, 114, 111, 114, 115, 32, 112, 114, 111, 100, 117, 99, 116, 32, 113, 117, 97, 116, 101, 114, 110, 105, 111, 110, 115, 32, 116, 119, 105, 115, 116, 32, 112, 108, 97, 99, 101, 115, 32, 97, 114, 99, 32, 98, 121, 32, 104, 97, 108, 102, 32, 107, 101, 101, 112, 115, 32, 119, 101, 105, 103, 104, 115, 32, 105, 102, 32, 116, 104, 101, 110, 32, 101, 108, 115, 101, 32, 101, 110, 100, 32, 102, 114, 111, 109, 32, 116, 111, 32, 109, 101, 109, 98, 101, 114, 32, 97, 110, 100, 32, 111, 114, 32, 110, 111, 116, 32]
theorem zL0_c {j : Nat} (h : j < 121) : aj_ch (aj_and (aj_sb [0, 100] j) 255) = zL0.getD j 0 := co_dec (N := 121) (P := fun j => aj_ch (aj_and (aj_sb [0, 100] j) 255) = zL0.getD j 0) (by decide +kernel) h
theorem zL1_c {j : Nat} (h : j < 12) : aj_ch (aj_and (aj_sb [0, 101] j) 255) = zL1.getD j 0 := co_dec (N := 12) (P := fun j => aj_ch (aj_and (aj_sb [0, 101] j) 255) = zL1.getD j 0) (by decide +kernel) h
theorem zL2_c {j : Nat} (h : j < 123) : aj_ch (aj_and (aj_sb [0, 102] j) 255) = zL2.getD j 0 := co_dec (N := 123) (P := fun j => aj_ch (aj_and (aj_sb [0, 102] j) 255) = zL2.getD j 0) (by decide +kernel) h
theorem zL0_b {j : Nat} (h : j < 121) : 0 ≤ zL0.getD j 0 ∧ zL0.getD j 0 < 128 := co_dec (N := 121) (P := fun j => 0 ≤ zL0.getD j 0 ∧ zL0.getD j 0 < 128) (by decide +kernel) h
theorem zL1_b {j : Nat} (h : j < 12) : 0 ≤ zL1.getD j 0 ∧ zL1.getD j 0 < 128 := co_dec (N := 12) (P := fun j => 0 ≤ zL1.getD j 0 ∧ zL1.getD j 0 < 128) (by decide +kernel) h
theorem zL2_b {j : Nat} (h : j < 123) : 0 ≤ zL2.getD j 0 ∧ zL2.getD j 0 < 128 := co_dec (N := 123) (P := fun j => 0 ≤ zL2.getD j 0 ∧ zL2.getD j 0 < 128) (by decide +kernel) h
theorem pLen0 {f : Nat} {Φ : Int → aj_M → Prop} {m : aj_M} (h : Φ 121 m) : wJ0_length_8abf5 f Φ [100] m := by
  unfold wJ0_length_8abf5 wJ0_coder_7d493
  rw [show aj_shr ((aj_sl [100] : Nat) : Int) 0 = 121 by decide +kernel]
  exact ⟨rfl, h⟩
theorem pLen1 {f : Nat} {Φ : Int → aj_M → Prop} {m : aj_M} (h : Φ 12 m) : wJ0_length_8abf5 f Φ [101] m := by
  unfold wJ0_length_8abf5 wJ0_coder_7d493
  rw [show aj_shr ((aj_sl [101] : Nat) : Int) 0 = 12 by decide +kernel]
  exact ⟨rfl, h⟩
theorem pLen2 {f : Nat} {Φ : Int → aj_M → Prop} {m : aj_M} (h : Φ 123 m) : wJ0_length_8abf5 f Φ [102] m := by
  unfold wJ0_length_8abf5 wJ0_coder_7d493
  rw [show aj_shr ((aj_sl [102] : Nat) : Int) 0 = 123 by decide +kernel]
  exact ⟨rfl, h⟩
theorem pChr0 {f : Nat} {Φ : Int → aj_M → Prop} {m : aj_M} {v : Int} {j : Nat} (hv : v = j) (hj : j < 121) (h : Φ (zL0.getD j 0) m) : wJ0_charAt_5068e f Φ [100] v m := by
  subst hv
  have hb := zL0_b hj
  unfold wJ0_charAt_5068e wJ0_isLatin1_aae02 wJ1_charAt_3b067 wJ0_checkIndex_df160
  rw [show ((aj_sl [100] : Nat) : Int) = 121 by decide +kernel, Int.toNat_natCast, zL0_c hj]
  exact ⟨rfl, ⟨by omega, by omega⟩, by omega, ⟨by omega, by omega⟩, ⟨by omega, by omega⟩, ⟨by omega, by omega⟩, h⟩
theorem pChr1 {f : Nat} {Φ : Int → aj_M → Prop} {m : aj_M} {v : Int} {j : Nat} (hv : v = j) (hj : j < 12) (h : Φ (zL1.getD j 0) m) : wJ0_charAt_5068e f Φ [101] v m := by
  subst hv
  have hb := zL1_b hj
  unfold wJ0_charAt_5068e wJ0_isLatin1_aae02 wJ1_charAt_3b067 wJ0_checkIndex_df160
  rw [show ((aj_sl [101] : Nat) : Int) = 12 by decide +kernel, Int.toNat_natCast, zL1_c hj]
  exact ⟨rfl, ⟨by omega, by omega⟩, by omega, ⟨by omega, by omega⟩, ⟨by omega, by omega⟩, ⟨by omega, by omega⟩, h⟩
theorem pChr2 {f : Nat} {Φ : Int → aj_M → Prop} {m : aj_M} {v : Int} {j : Nat} (hv : v = j) (hj : j < 123) (h : Φ (zL2.getD j 0) m) : wJ0_charAt_5068e f Φ [102] v m := by
  subst hv
  have hb := zL2_b hj
  unfold wJ0_charAt_5068e wJ0_isLatin1_aae02 wJ1_charAt_3b067 wJ0_checkIndex_df160
  rw [show ((aj_sl [102] : Nat) : Int) = 123 by decide +kernel, Int.toNat_natCast, zL2_c hj]
  exact ⟨rfl, ⟨by omega, by omega⟩, by omega, ⟨by omega, by omega⟩, ⟨by omega, by omega⟩, ⟨by omega, by omega⟩, h⟩
/-! the class's loop over its words, as a list -/
def zCw (a : Nat → Int) (len : Nat) : List Int → Int → Int → Int
  | [], w, al => if al = len then w else 199
  | c :: cs, w, al => if c = 32 then (if al = len then w else zCw a len cs (w + 1) 0) else if 0 ≤ al ∧ al < len ∧ a al.toNat = c then zCw a len cs w (al + 1) else zCw a len cs w (-1)
theorem zCw_no {a : Nat → Int} {len : Nat} {w : Int} {cs : List Int} : ∀ (u : List Int), (∀ c, c ∈ u → c ≠ 32) → zCw a len (u ++ cs) w (-1) = zCw a len cs w (-1)
  | [], _ => rfl
  | c :: u, h => by
    show zCw a len (c :: (u ++ cs)) w (-1) = _
    rw [zCw, if_neg (h c (by simp)), if_neg (by omega), zCw_no u (fun x hx => h x (by simp [hx]))]
theorem zCw_w {a : Nat → Int} {len : Nat} {w : Int} {cs : List Int} : ∀ (u : List Int) (i : Nat), (∀ c, c ∈ u → c ≠ 32) → zCw a len (u ++ cs) w i = zCw a len cs w (if (∀ j, j < u.length → i + j < len ∧ a (i + j) = u.getD j 0) then ((i + u.length : Nat) : Int) else -1)
  | [], i, _ => by
    rw [if_pos (fun j hj => absurd hj (by simp))]
    rfl
  | c :: u, i, h => by
    show zCw a len (c :: (u ++ cs)) w i = _
    rw [zCw, if_neg (h c (by simp)), Int.toNat_natCast]
    have hu : ∀ x, x ∈ u → x ≠ 32 := fun x hx => h x (by simp [hx])
    by_cases k : i < len ∧ a i = c
    · rw [if_pos ⟨by omega, by omega, k.2⟩, show (i : Int) + 1 = ((i + 1 : Nat) : Int) by omega, zCw_w u (i + 1) hu]
      have e : (∀ j, j < u.length → i + 1 + j < len ∧ a (i + 1 + j) = u.getD j 0) ↔ (∀ j, j < (c :: u).length → i + j < len ∧ a (i + j) = (c :: u).getD j 0) := by
        constructor
        · intro g j hj
          rcases j with _ | j
          · exact ⟨k.1, k.2⟩
          · have := g j (by simp only [List.length_cons] at hj; omega)
            rw [show i + (j + 1) = i + 1 + j by omega]
            exact this
        · intro g j hj
          have := g (j + 1) (by simp only [List.length_cons]; omega)
          rw [show i + 1 + j = i + (j + 1) by omega]
          exact this
      by_cases g : ∀ j, j < u.length → i + 1 + j < len ∧ a (i + 1 + j) = u.getD j 0
      · rw [if_pos g, if_pos (e.mp g), List.length_cons, show i + 1 + u.length = i + (u.length + 1) by omega]
      · rw [if_neg g, if_neg (fun x => g (e.mpr x))]
    · rw [if_neg (fun x => k ⟨by omega, x.2.2⟩), zCw_no u hu, if_neg (fun x => k (by have := x 0 (by simp); exact ⟨by omega, this.2⟩))]
theorem zCw_fin {a : Nat → Int} {len : Nat} {u : List Int} : (if (∀ j, j < u.length → 0 + j < len ∧ a (0 + j) = u.getD j 0) then ((0 + u.length : Nat) : Int) else -1) = (len : Int) ↔ zIs a len u = true := by
  rw [zIs_iff]
  constructor
  · intro h
    by_cases g : ∀ j, j < u.length → 0 + j < len ∧ a (0 + j) = u.getD j 0
    · rw [if_pos g] at h
      refine ⟨by omega, fun i hi => ?_⟩
      have := (g i (by omega)).2
      rwa [Nat.zero_add] at this
    · rw [if_neg g] at h
      omega
  · rintro ⟨h1, h2⟩
    rw [if_pos (fun j hj => ⟨by omega, by rw [Nat.zero_add]; exact h2 j (by omega)⟩)]
    omega
theorem zCw_1 {a : Nat → Int} {len : Nat} {w : Int} {u cs : List Int} (hu : ∀ c, c ∈ u → c ≠ 32) : zCw a len (u ++ 32 :: cs) w 0 = if zIs a len u = true then w else zCw a len cs (w + 1) 0 := by
  have := zCw_w (a := a) (len := len) (w := w) (cs := 32 :: cs) u 0 hu
  rw [show ((0 : Nat) : Int) = 0 from rfl] at this
  rw [this, zCw, if_pos rfl]
  by_cases g : zIs a len u = true
  · rw [if_pos g, if_pos (zCw_fin.mpr g)]
  · rw [if_neg g, if_neg (fun x => g (zCw_fin.mp x))]
theorem zCw_e {a : Nat → Int} {len : Nat} {w : Int} {u : List Int} (hu : ∀ c, c ∈ u → c ≠ 32) : zCw a len u w 0 = if zIs a len u = true then w else 199 := by
  have := zCw_w (a := a) (len := len) (w := w) (cs := []) u 0 hu
  rw [show ((0 : Nat) : Int) = 0 from rfl, List.append_nil] at this
  rw [this, zCw]
  by_cases g : zIs a len u = true
  · rw [if_pos g, if_pos (zCw_fin.mpr g)]
  · rw [if_neg g, if_neg (fun x => g (zCw_fin.mp x))]
def zJw : List (List Int) → List Int
  | [] => []
  | w :: ws => match ws with
    | [] => w
    | _ :: _ => w ++ 32 :: zJw ws
theorem zCw_j {a : Nat → Int} {len : Nat} : ∀ (ws : List (List Int)) (w : Int), ws ≠ [] → (∀ u, u ∈ ws → ∀ c, c ∈ u → c ≠ 32) → zCw a len (zJw ws) w 0 = zWf a len 199 ws w
  | [], _, h, _ => absurd rfl h
  | [u], w, _, h => by
    show zCw a len u w 0 = _
    rw [zCw_e (h u (by simp))]
    rfl
  | u :: u' :: ws, w, _, h => by
    show zCw a len (u ++ 32 :: zJw (u' :: ws)) w 0 = _
    rw [zCw_1 (h u (by simp)), zCw_j (u' :: ws) (w + 1) (by simp) (fun x hx => h x (List.mem_cons_of_mem _ hx))]
    rfl
theorem zCw_all {a : Nat → Int} {len : Nat} : zCw a len zL0 200 0 = cT (zWf a len 22 zKw 0) := by
  rw [← zWf_cr, ← zCw_j zCo 200 (by decide) (by decide)]
  rfl
theorem zdrop {l : List Int} {i : Nat} (h : i < l.length) : l.drop i = l.getD i 0 :: l.drop (i + 1) := by
  rw [List.drop_eq_getElem_cons h, List.getD_eq_getElem?_getD, List.getElem?_eq_getElem h, Option.getD_some]
theorem hX7_wt {f : Nat} {Φ : Int → aj_M → Prop} {m : aj_M} {a : Nat → Int} {len at' : Nat} (h5 : m [0, 0] 5 = at') (hl : at' + len ≤ 900) (ha : ∀ j, j < len → m [0, 0, 0] (at' + j) = a j) (hr : ∀ j, j < len → rI (a j)) : ∀ (k i : Nat) (w al : Int), i ≤ 121 → 122 - i < k → -1 ≤ al → al ≤ i → Φ (zCw a len (zL0.drop i) w al) m → hX7_wordToken_9 f Φ k [0, 0] len w al i m := by
  intro k
  induction k with
  | zero => intro i w al h1 h2; omega
  | succ k ih =>
    intro i w al h1 h2 h3 h4 hΦ
    unfold hX7_wordToken_9
    refine pLen0 ⟨⟨by omega, by omega⟩, by decide, fun c => by omega, fun _ => pLen0 ⟨⟨by omega, by omega⟩, by decide, fun c => ⟨⟨by omega, by omega⟩, ⟨by omega, by omega⟩, fun d => ?_, fun d => ?_⟩, fun c => ?_⟩⟩
    · have ei : i = 121 := by omega
      subst ei
      rw [show zL0.drop 121 = [] from rfl, zCw, if_neg d] at hΦ
      unfold hX7_wordToken_9
      cases k with
      | zero => omega
      | succ k =>
        unfold hX7_wordToken_9
        exact pLen0 ⟨by decide, by decide, fun _ => hΦ, fun c => absurd (by decide) c⟩
    · have ei : i = 121 := by omega
      subst ei
      rw [show zL0.drop 121 = [] from rfl, zCw, if_pos d] at hΦ
      exact hΦ
    · have hi : i < 121 := by omega
      have hb := zL0_b hi
      rw [zdrop (show i < zL0.length from hi), zCw] at hΦ
      refine pChr0 rfl hi ⟨⟨by omega, by omega⟩, fun d => ⟨⟨by omega, by omega⟩, fun e => ?_, fun e => ⟨⟨by omega, by omega⟩, ⟨by omega, by omega⟩, fun g => ?_, fun g => ⟨⟨by rw [h5]; omega, by rw [h5]; omega⟩, ?_⟩⟩⟩, fun d => ⟨⟨by omega, by omega⟩, ⟨by omega, by omega⟩, fun e => ?_, fun e => ?_⟩⟩
      · rw [if_neg d, if_neg (by omega)] at hΦ
        exact ih (i + 1) w (-1) (by omega) (by omega) (by omega) (by omega) hΦ
      · rw [if_neg d, if_neg (by omega)] at hΦ
        exact ih (i + 1) w (-1) (by omega) (by omega) (by omega) (by omega) hΦ
      · have ea : m [0, 0, 0] (m [0, 0] 5 + al).toNat = a al.toNat := by
          rw [h5, show ((at' : Int) + al).toNat = at' + al.toNat by omega]
          exact ha _ (by omega)
        have hra := hr al.toNat (by omega)
        refine pChr0 rfl hi ?_
        rw [ea]
        refine ⟨hra, ⟨by omega, by omega⟩, fun x => ?_, fun x => ?_⟩
        · rw [if_neg d, if_neg (fun y => x y.2.2)] at hΦ
          exact ih (i + 1) w (-1) (by omega) (by omega) (by omega) (by omega) hΦ
        · rw [if_neg d, if_pos ⟨by omega, by omega, x⟩] at hΦ
          exact ih (i + 1) w (al + 1) (by omega) (by omega) (by omega) (by omega) hΦ
      · rw [if_pos d, if_neg e] at hΦ
        exact ih (i + 1) (w + 1) 0 (by omega) (by omega) (by omega) (by omega) hΦ
      · rw [if_pos d, if_pos e] at hΦ
        exact hΦ
theorem pX7_wordToken {f : Nat} {Φ : Int → aj_M → Prop} {m : aj_M} {a : Nat → Int} {len at' : Nat} {v : Int} (hf : 200 ≤ f) (hv : v = len) (h5 : m [0, 0] 5 = at') (hl : at' + len ≤ 900) (ha : ∀ j, j < len → m [0, 0, 0] (at' + j) = a j) (hr : ∀ j, j < len → rI (a j)) (h : Φ (cT (zWf a len 22 zKw 0)) m) : wX7_wordToken f Φ [0, 0] v m := by
  subst hv
  unfold wX7_wordToken
  rw [← zCw_all] at h
  exact hX7_wt h5 hl ha hr f 0 200 0 (by omega) (by omega) (by omega) (by omega) h
/-! the reference's loop over its words -/
def zJt : List (List Int) → List Int
  | [] => []
  | w :: ws => w ++ 32 :: zJt ws
theorem zgetD_drop {l : List Int} {p i : Nat} : (l.drop p).getD i 0 = l.getD (p + i) 0 := by
  rw [List.getD_eq_getElem?_getD, List.getD_eq_getElem?_getD, List.getElem?_drop]
theorem hX12_k97 {f : Nat} {Φ : Int → aj_M → Prop} {K : List Nat → Int → Int → aj_M → Prop} {m : aj_M} {w : Int} {e : Nat} (he : e < 123) (h32 : zL2.getD e 0 = 32) (hK : K [1] (w + 1) ((e + 1 : Nat) : Int) m) : ∀ (k p : Nat), p ≤ e → e - p < k → (∀ i, p ≤ i → i < e → zL2.getD i 0 ≠ 32) → hX12_keyAt_97 f Φ K k [1] w (p : Int) m := by
  intro k
  induction k with
  | zero => intro p h1 h2; omega
  | succ k ih =>
    intro p h1 h2 h3
    unfold hX12_keyAt_97
    have hb := zL2_b (show p < 123 by omega)
    refine pChr2 rfl (by omega) ⟨⟨by omega, by omega⟩, fun c => ?_, fun c => ?_⟩
    · have : p = e := Classical.byContradiction fun x => h3 p (by omega) (by omega) c
      subst this
      exact hK
    · have : p ≠ e := fun x => c (by rw [x]; exact h32)
      exact ih (p + 1) (by omega) (by omega) (fun i a b => h3 i (by omega) b)
theorem hX12_k15 {f : Nat} {Φ : Int → aj_M → Prop} {K : List Nat → Int → Int → aj_M → Prop} {m : aj_M} {a : Nat → Int} {len at' p : Nat} {n : Int} {w : List Int} (hf : 200 ≤ f) (h6 : m [1] 6 = at') (h7 : m [1] 7 = ((at' + len : Nat) : Int)) (hl : at' + len ≤ 900) (ha : ∀ j, j < len → m [3, 1] (at' + j) = a j) (hr : ∀ j, j < len → rI (a j)) (hp : p + w.length < 123) (hw : ∀ i, i < w.length → zL2.getD (p + i) 0 = w.getD i 0) (hw32 : ∀ i, i < w.length → w.getD i 0 ≠ 32) (h32 : zL2.getD (p + w.length) 0 = 32) (hy : zIs a len w = true → Φ n m) (hn : ¬ zIs a len w = true → K [1] (n + 1) ((p + w.length + 1 : Nat) : Int) m) : ∀ (k i : Nat), i ≤ w.length → w.length - i < k → i ≤ len → (∀ j, j < i → a j = w.getD j 0) → hX12_keyAt_15 f Φ K k [1] n (p : Int) (i : Int) m := by
  have skip : ¬ zIs a len w = true → hX12_keyAt_97 f Φ K f [1] n (p : Int) m := fun x => hX12_k97 hp h32 (hn x) f p (by omega) (by omega) (fun i x1 x2 => by
    have := hw (i - p) (by omega)
    rw [show p + (i - p) = i by omega] at this
    rw [this]
    exact hw32 _ (by omega))
  intro k
  induction k with
  | zero => intro i h1 h2; omega
  | succ k ih =>
    intro i h1 h2 h3 h4
    unfold hX12_keyAt_15
    have hb := zL2_b (show p + i < 123 by omega)
    have at69 : (zL2.getD (p + i) 0 = 32 → i = len → Φ n m) → (¬ (zL2.getD (p + i) 0 = 32 ∧ i = len) → hX12_keyAt_97 f Φ K f [1] n (p : Int) m) → hX12_keyAt_69 f Φ K [1] n (p : Int) (i : Int) m := by
      intro g1 g2
      unfold hX12_keyAt_69
      refine pChr2 (j := p + i) (by omega) (by omega) ?_
      rw [h6, h7]
      refine ⟨⟨by omega, by omega⟩, fun c => g2 (fun x => c x.1), fun c => ⟨⟨by omega, by omega⟩, ⟨by omega, by omega⟩, fun d => g2 (fun x => d (by omega)), fun d => g1 c (by omega)⟩⟩
    refine pChr2 (j := p + i) (by omega) (by omega) ?_
    rw [h6, h7]
    refine ⟨⟨by omega, by omega⟩, fun c => ?_, fun c => ⟨⟨by omega, by omega⟩, ⟨by omega, by omega⟩, fun d => ?_, fun d => ⟨⟨by omega, by omega⟩, ?_⟩⟩⟩
    · have ei : i = w.length := Classical.byContradiction fun x => by
        have := hw i (by omega)
        exact hw32 i (by omega) (by rw [← this]; exact c)
      refine at69 (fun _ e => hy (zIs_iff.mpr ⟨by omega, fun j hj => h4 j (by omega)⟩)) (fun x => skip (fun y => x ⟨c, ?_⟩))
      have := (zIs_iff.mp y).1
      omega
    · have ei : i ≠ w.length := fun x => c (by rw [x]; exact h32)
      refine at69 (fun x => absurd x c) (fun _ => skip (fun y => ?_))
      have := (zIs_iff.mp y).1
      omega
    · have ei : i ≠ w.length := fun x => c (by rw [x]; exact h32)
      have ew := hw i (by omega)
      refine pChr2 (j := p + i) (by omega) (by omega) ?_
      rw [show ((at' : Int) + (i : Int)).toNat = at' + i by omega, ha i (by omega)]
      refine ⟨hr i (by omega), ⟨by omega, by omega⟩, fun x => ?_, fun x => ?_⟩
      · refine at69 (fun y => absurd y c) (fun _ => skip (fun y => x ?_))
        rw [ew]
        exact (zIs_iff.mp y).2 i (by omega)
      · refine ih (i + 1) (by omega) (by omega) (by omega) (fun j hj => ?_)
        by_cases e : j = i
        · subst e
          rw [x, ew]
        · exact h4 j (by omega)
theorem hX12_k4 {f : Nat} {Φ : Int → aj_M → Prop} {m : aj_M} {a : Nat → Int} {len at' : Nat} (hf : 200 ≤ f) (h6 : m [1] 6 = at') (h7 : m [1] 7 = ((at' + len : Nat) : Int)) (hl : at' + len ≤ 900) (ha : ∀ j, j < len → m [3, 1] (at' + j) = a j) (hr : ∀ j, j < len → rI (a j)) : ∀ (ws : List (List Int)) (k p : Nat) (n : Int), p ≤ 123 → zL2.drop p = zJt ws → ws.length < k → (∀ u, u ∈ ws → ∀ c, c ∈ u → c ≠ 32) → Φ (zWf a len 22 ws n) m → hX12_keyAt_4 f Φ k [1] n (p : Int) m
  | [], k + 1, p, n, hp, hd, hk, hu, h => by
    have e : zL2.length - p = 0 := by rw [← List.length_drop, hd]; rfl
    have e2 : zL2.length = 123 := rfl
    unfold hX12_keyAt_4
    exact pLen2 ⟨⟨by omega, by omega⟩, by decide, fun _ => h, fun c => by omega⟩
  | w :: ws, k + 1, p, n, hp, hd, hk, hu, h => by
    have e : zL2.length - p = w.length + (zJt ws).length + 1 := by
      rw [← List.length_drop, hd]
      simp only [zJt, List.length_append, List.length_cons]
      omega
    have e2 : zL2.length = 123 := rfl
    have g : ∀ i, zL2.getD (p + i) 0 = (w ++ 32 :: zJt ws).getD i 0 := fun i => by
      rw [← zgetD_drop, hd]
      rfl
    have gl : ∀ i, i < w.length → (w ++ 32 :: zJt ws).getD i 0 = w.getD i 0 := fun i hi => by
      rw [List.getD_eq_getElem?_getD, List.getD_eq_getElem?_getD, List.getElem?_append_left hi]
    unfold hX12_keyAt_4
    refine pLen2 ⟨⟨by omega, by omega⟩, by decide, fun c => by omega, fun _ => ?_⟩
    have h' := h
    unfold zWf at h'
    refine hX12_k15 (w := w) (a := a) hf h6 h7 hl ha hr (by omega) (fun i hi => (g i).trans (gl i hi)) (fun i hi => ?_) ?_ (fun x => ?_) (fun x => ?_) f 0 (by omega) (by simp only [List.length_cons] at hk; omega) (by omega) (fun j hj => absurd hj (by omega))
    · rw [List.getD_eq_getElem?_getD, List.getElem?_eq_getElem hi, Option.getD_some]
      exact hu w (by simp) _ (List.getElem_mem hi)
    · rw [g, List.getD_eq_getElem?_getD, List.getElem?_append_right (Nat.le_refl _), Nat.sub_self]
      rfl
    · rw [if_pos x] at h'
      exact h'
    · rw [if_neg x] at h'
      refine hX12_k4 hf h6 h7 hl ha hr ws k (p + w.length + 1) (n + 1) (by omega) ?_ (by simp only [List.length_cons] at hk; omega) (fun u hu' => hu u (List.mem_cons_of_mem _ hu')) h'
      rw [show p + w.length + 1 = p + (w.length + 1) by omega, ← List.drop_drop, hd]
      show (w ++ 32 :: zJt ws).drop (w.length + 1) = _
      rw [List.drop_append, List.drop_of_length_le (by omega), show w.length + 1 - w.length = 1 by omega]
      rfl
theorem pX12_keyAt {f : Nat} {Φ : Int → aj_M → Prop} {m : aj_M} {a : Nat → Int} {len at' : Nat} (hf : 200 ≤ f) (h6 : m [1] 6 = at') (h7 : m [1] 7 = ((at' + len : Nat) : Int)) (hl : at' + len ≤ 900) (ha : ∀ j, j < len → m [3, 1] (at' + j) = a j) (hr : ∀ j, j < len → rI (a j)) (h : Φ (zWf a len 22 zKw 0) m) : wX12_keyAt f Φ [1] m := by
  unfold wX12_keyAt
  exact hX12_k4 hf h6 h7 hl ha hr zKw f 1 0 (by omega) rfl (by show 22 < f; omega) (by decide) h
