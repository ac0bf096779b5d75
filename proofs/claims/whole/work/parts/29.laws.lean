/-! LAWS: codes run over a stack -/
def zcl (v : Int) : Int := max (-1000000) (min 1000000 v)
def zOp (c x y : Int) : Int := if c = 3003 then (if x = y then 1 else 0) else if c = 3004 then (if x < y then 1 else 0) else if c = 3005 then (if y < x then 1 else 0) else if c = 3007 then aj_and x y else if c = 3008 then aj_or x y else if c = 3000 then zcl (x + y) else if c = 3001 then zcl (x - y) else zcl (x * y)
def zstep (w : Nat → Int) (c : Int) (s : List Int) : List Int :=
  if c < 1005 then (if c < 1000 then c else w (c - 1000).toNat) :: s
  else if c = 3006 then (match s with | x :: r => (1 - x) :: r | [] => [])
  else if c = 3009 then (match s with | z :: y :: x :: r => (if x = 1 then y else z) :: r | _ => [])
  else (match s with | y :: x :: r => zOp c x y :: r | _ => [])
def zrun (w cd : Nat → Int) : Nat → Nat → List Int → List Int
  | _, 0, s => s
  | i, n + 1, s => zrun w cd (i + 1) n (zstep w (cd i) s)
def ztc (c : Int) (ts : List Bool) : Option (List Bool) :=
  if 0 ≤ c ∧ c < 1005 then some (false :: ts)
  else if c = 3006 then (match ts with | true :: r => some (true :: r) | _ => none)
  else if c = 3009 then (match ts with | false :: false :: true :: r => some (false :: r) | _ => none)
  else if 3000 ≤ c ∧ c ≤ 3002 then (match ts with | false :: false :: r => some (false :: r) | _ => none)
  else if 3003 ≤ c ∧ c ≤ 3005 then (match ts with | false :: false :: r => some (true :: r) | _ => none)
  else if c = 3007 ∨ c = 3008 then (match ts with | true :: true :: r => some (true :: r) | _ => none)
  else none
def zty (cd : Nat → Int) : Nat → Nat → List Bool → Option (List Bool)
  | _, 0, ts => some ts
  | i, n + 1, ts => match ztc (cd i) ts with
    | none => none
    | some ts' => if ts'.length ≤ 60 then zty cd (i + 1) n ts' else none
def zv (t : Bool) (v : Int) : Prop := (t = true → v = 0 ∨ v = 1) ∧ -1000000 ≤ v ∧ v ≤ 1000000
def zmt : List Bool → List Int → Prop
  | [], [] => True
  | t :: ts, v :: vs => zv t v ∧ zmt ts vs
  | _, _ => False
theorem zmt_len : ∀ {ts : List Bool} {s : List Int}, zmt ts s → s.length = ts.length
  | [], [], _ => rfl
  | t :: ts, v :: vs, h => by simp [zmt_len h.2]
  | [], v :: vs, h => False.elim h
  | t :: ts, [], h => False.elim h
theorem ztc_inv {c : Int} {ts ts' : List Bool} (h : ztc c ts = some ts') : (0 ≤ c ∧ c < 1005 ∧ ts' = false :: ts) ∨ (c = 3006 ∧ ∃ r, ts = true :: r ∧ ts' = true :: r) ∨ (c = 3009 ∧ ∃ r, ts = false :: false :: true :: r ∧ ts' = false :: r) ∨ (∃ t t' r, ts = t :: t :: r ∧ ts' = t' :: r ∧ ((t = false ∧ t' = false ∧ 3000 ≤ c ∧ c ≤ 3002) ∨ (t = false ∧ t' = true ∧ 3003 ≤ c ∧ c ≤ 3005) ∨ (t = true ∧ t' = true ∧ (c = 3007 ∨ c = 3008)))) := by
  unfold ztc at h
  split at h
  · next h1 => cases h; exact Or.inl ⟨h1.1, h1.2, rfl⟩
  · split at h
    · next h1 =>
      split at h
      · cases h; exact Or.inr (Or.inl ⟨h1, _, rfl, rfl⟩)
      · cases h
    · split at h
      · next h1 =>
        split at h
        · cases h; exact Or.inr (Or.inr (Or.inl ⟨h1, _, rfl, rfl⟩))
        · cases h
      · split at h
        · next h1 =>
          split at h
          · cases h; exact Or.inr (Or.inr (Or.inr ⟨false, false, _, rfl, rfl, Or.inl ⟨rfl, rfl, h1.1, h1.2⟩⟩))
          · cases h
        · split at h
          · next h1 =>
            split at h
            · cases h; exact Or.inr (Or.inr (Or.inr ⟨false, true, _, rfl, rfl, Or.inr (Or.inl ⟨rfl, rfl, h1.1, h1.2⟩)⟩))
            · cases h
          · split at h
            · next h1 =>
              split at h
              · cases h; exact Or.inr (Or.inr (Or.inr ⟨true, true, _, rfl, rfl, Or.inr (Or.inr ⟨rfl, rfl, h1⟩)⟩))
              · cases h
            · cases h
theorem zbit_and {x y : Int} (hx : x = 0 ∨ x = 1) (hy : y = 0 ∨ y = 1) : aj_and x y = 0 ∨ aj_and x y = 1 := by
  rcases hx with rfl | rfl <;> rcases hy with rfl | rfl <;> decide
theorem zbit_or {x y : Int} (hx : x = 0 ∨ x = 1) (hy : y = 0 ∨ y = 1) : aj_or x y = 0 ∨ aj_or x y = 1 := by
  rcases hx with rfl | rfl <;> rcases hy with rfl | rfl <;> decide
theorem zcl_b {v : Int} : -1000000 ≤ zcl v ∧ zcl v ≤ 1000000 := by unfold zcl; omega
theorem zcl_id {v : Int} (h : -1000000 ≤ v) (h2 : v ≤ 1000000) : zcl v = v := by unfold zcl; omega
theorem zOp_v {c x y : Int} {t t' : Bool} (hx : zv t x) (hy : zv t y) (h : (t = false ∧ t' = false ∧ 3000 ≤ c ∧ c ≤ 3002) ∨ (t = false ∧ t' = true ∧ 3003 ≤ c ∧ c ≤ 3005) ∨ (t = true ∧ t' = true ∧ (c = 3007 ∨ c = 3008))) : zv t' (zOp c x y) := by
  have e : ∀ v : Int, v = 0 ∨ v = 1 → zv t' v := fun v hv => ⟨fun _ => hv, by omega, by omega⟩
  rcases h with ⟨rfl, rfl, h1, h2⟩ | ⟨rfl, rfl, h1, h2⟩ | ⟨rfl, rfl, h1⟩
  · have : zOp c x y = zcl (x + y) ∨ zOp c x y = zcl (x - y) ∨ zOp c x y = zcl (x * y) := by
      unfold zOp
      rw [if_neg (by omega), if_neg (by omega), if_neg (by omega), if_neg (by omega), if_neg (by omega)]
      split
      · exact Or.inl rfl
      · split
        · exact Or.inr (Or.inl rfl)
        · exact Or.inr (Or.inr rfl)
    refine ⟨fun h => (by cases h), ?_⟩
    rcases this with h | h | h <;> rw [h] <;> exact zcl_b
  · refine e _ ?_
    unfold zOp
    by_cases c3 : c = 3003
    · rw [if_pos c3]; split <;> omega
    · rw [if_neg c3]
      by_cases c4 : c = 3004
      · rw [if_pos c4]; split <;> omega
      · rw [if_neg c4, if_pos (by omega)]; split <;> omega
  · refine e _ ?_
    unfold zOp
    rw [if_neg (by omega), if_neg (by omega), if_neg (by omega)]
    split
    · exact zbit_and (hx.1 rfl) (hy.1 rfl)
    · rw [if_pos (by omega)]; exact zbit_or (hx.1 rfl) (hy.1 rfl)
def zstk (S : Nat → Int) : List Int → Prop
  | [] => True
  | x :: r => S r.length = x ∧ zstk S r
theorem zstk_st {S : Nat → Int} {j : Nat} {x : Int} : ∀ {s : List Int}, s.length ≤ j → zstk S s → zstk (st S j x) s
  | [], _, _ => True.intro
  | y :: r, h, hs => ⟨by rw [st_ne (by simp at h; omega)]; exact hs.1, zstk_st (by simp at h; omega) hs.2⟩
def zenc (c : Int) : Int := if c < 1000 then 16 * c else if c < 2000 then c - 999 else c - 2994
theorem pX4_joined {f : Nat} {Φ : Int → aj_M → Prop} {c x y : Int} {m : aj_M} {t t' : Bool} (hx : zv t x) (hy : zv t y) (h : (t = false ∧ t' = false ∧ 3000 ≤ c ∧ c ≤ 3002) ∨ (t = false ∧ t' = true ∧ 3003 ≤ c ∧ c ≤ 3005) ∨ (t = true ∧ t' = true ∧ (c = 3007 ∨ c = 3008))) (hK : ∀ z : Int, rL z → zcl z = zOp c x y → Φ z m) : wX4_joined f Φ (c - 2994) x y m := by
  have hx2 := hx.2
  have hy2 := hy.2
  unfold wX4_joined
  have hb : ∀ v : Int, v = 0 ∨ v = 1 → rL v := fun v hv => ⟨by omega, by omega⟩
  refine ⟨⟨by omega, by omega⟩, fun k => ?_, fun k => ?_, fun k => ?_, fun k => ?_, fun k => ?_, fun k => ?_, fun k => ?_, fun k => ?_, fun k => ?_⟩
  · rcases h with ⟨_, _, h1, h2⟩ | ⟨_, _, h1, h2⟩ | ⟨rfl, rfl, h1⟩
    · omega
    · omega
    · have h8 : c = 3008 := by omega
      have hv := zbit_or (hx.1 rfl) (hy.1 rfl)
      refine ⟨⟨by omega, by omega⟩, hK _ (hb _ hv) ?_⟩
      rw [zcl_id (by omega) (by omega)]
      unfold zOp
      rw [if_neg (by omega), if_neg (by omega), if_neg (by omega), if_neg (by omega), if_pos h8]
  · refine ⟨⟨by omega, by omega⟩, hK _ ⟨by omega, by omega⟩ ?_⟩
    unfold zOp
    rw [if_neg (by omega), if_neg (by omega), if_neg (by omega), if_neg (by omega), if_neg (by omega), if_pos (by omega)]
  · refine ⟨⟨by omega, by omega⟩, hK _ ⟨by omega, by omega⟩ ?_⟩
    unfold zOp
    rw [if_neg (by omega), if_neg (by omega), if_neg (by omega), if_neg (by omega), if_neg (by omega), if_neg (by omega), if_pos (by omega)]
  · have hb2 : -1000000000000 ≤ x * y ∧ x * y ≤ 1000000000000 := by
      have h1 : (x.natAbs * y.natAbs) ≤ 1000000 * 1000000 := Nat.mul_le_mul (by omega) (by omega)
      rw [← Int.natAbs_mul] at h1
      omega
    refine ⟨⟨by omega, by omega⟩, ⟨by omega, by omega⟩, hK _ ⟨by omega, by omega⟩ ?_⟩
    unfold zOp
    rw [if_neg (by omega), if_neg (by omega), if_neg (by omega), if_neg (by omega), if_neg (by omega), if_neg (by omega), if_neg (by omega)]
  · have h8 : c = 3003 := by omega
    refine ⟨⟨by omega, by omega⟩, ⟨by omega, by omega⟩, fun k2 => hK _ (by decide) ?_, fun k2 => hK _ (by decide) ?_⟩
    · unfold zOp; rw [if_pos h8, if_neg k2]; rfl
    · unfold zOp; rw [if_pos h8, if_pos k2]; rfl
  · have h8 : c = 3004 := by omega
    refine ⟨⟨by omega, by omega⟩, ⟨by omega, by omega⟩, fun k2 => hK _ (by decide) ?_, fun k2 => hK _ (by decide) ?_⟩
    · unfold zOp; rw [if_neg (by omega), if_pos h8, if_neg (by omega)]; rfl
    · unfold zOp; rw [if_neg (by omega), if_pos h8, if_pos (by omega)]; rfl
  · have h8 : c = 3005 := by omega
    refine ⟨⟨by omega, by omega⟩, ⟨by omega, by omega⟩, fun k2 => hK _ (by decide) ?_, fun k2 => hK _ (by decide) ?_⟩
    · unfold zOp; rw [if_neg (by omega), if_neg (by omega), if_pos h8, if_neg (by omega)]; rfl
    · unfold zOp; rw [if_neg (by omega), if_neg (by omega), if_pos h8, if_pos (by omega)]; rfl
  · omega
  · rcases h with ⟨_, _, h1, h2⟩ | ⟨_, _, h1, h2⟩ | ⟨rfl, rfl, h1⟩
    · omega
    · omega
    · have h8 : c = 3007 := by omega
      have hv := zbit_and (hx.1 rfl) (hy.1 rfl)
      refine ⟨⟨by omega, by omega⟩, hK _ (hb _ hv) ?_⟩
      rw [zcl_id (by omega) (by omega)]
      unfold zOp
      rw [if_neg (by omega), if_neg (by omega), if_neg (by omega), if_pos h8]
theorem zbt116 {f : Nat} {Φ : Int → aj_M → Prop} {v : Int} {m : aj_M} (hv : rL v) (h : Φ (zcl v) m) : hX12_between_116 f Φ v m := by
  unfold hX12_between_116
  refine ⟨hv, fun c => ⟨hv, fun c2 => ?_, fun c2 => ?_⟩, fun c => ?_⟩
  · rwa [zcl_id c2 c] at h
  · rwa [show zcl v = -1000000 by unfold zcl; omega] at h
  · rwa [show zcl v = 1000000 by unfold zcl; omega] at h
theorem pX12_between {f : Nat} {Φ : Int → aj_M → Prop} {c x y : Int} {m : aj_M} {t t' : Bool} (hx : zv t x) (hy : zv t y) (h : (t = false ∧ t' = false ∧ 3000 ≤ c ∧ c ≤ 3002) ∨ (t = false ∧ t' = true ∧ 3003 ≤ c ∧ c ≤ 3005) ∨ (t = true ∧ t' = true ∧ (c = 3007 ∨ c = 3008))) (hK : Φ (zOp c x y) m) : wX12_between f Φ c x y m := by
  have hx2 := hx.2
  have hy2 := hy.2
  have hc : rI c := ⟨by omega, by omega⟩
  unfold wX12_between
  refine ⟨hc, fun k => ⟨hc, fun k2 => ⟨hc, fun k3 => ⟨⟨by omega, by omega⟩, ⟨by omega, by omega⟩, zbt116 ?_ ?_⟩, fun k3 => ⟨⟨by omega, by omega⟩, ⟨by omega, by omega⟩, zbt116 ⟨by omega, by omega⟩ ?_⟩⟩, fun k2 => ⟨⟨by omega, by omega⟩, ⟨by omega, by omega⟩, zbt116 ⟨by omega, by omega⟩ ?_⟩⟩, fun k => ⟨⟨by omega, by omega⟩, ⟨by omega, by omega⟩, fun k2 => ?_, fun k2 => ?_⟩, fun k => ⟨⟨by omega, by omega⟩, ⟨by omega, by omega⟩, fun k2 => ?_, fun k2 => ?_⟩, fun k => ⟨⟨by omega, by omega⟩, ⟨by omega, by omega⟩, fun k2 => ?_, fun k2 => ?_⟩, fun k => by omega, fun k => ?_, fun k => ?_⟩
  · have h1 : (x.natAbs * y.natAbs) ≤ 1000000 * 1000000 := Nat.mul_le_mul (by omega) (by omega)
    rw [← Int.natAbs_mul] at h1
    exact ⟨by omega, by omega⟩
  · unfold zOp at hK
    rwa [if_neg (by omega), if_neg (by omega), if_neg (by omega), if_neg (by omega), if_neg (by omega), if_neg (by omega), if_neg (by omega)] at hK
  · unfold zOp at hK
    rwa [if_neg (by omega), if_neg (by omega), if_neg (by omega), if_neg (by omega), if_neg (by omega), if_neg (by omega), if_pos k3] at hK
  · unfold zOp at hK
    rwa [if_neg (by omega), if_neg (by omega), if_neg (by omega), if_neg (by omega), if_neg (by omega), if_pos k2] at hK
  · unfold zOp at hK; rwa [if_pos k, if_neg k2] at hK
  · unfold zOp at hK; rwa [if_pos k, if_pos k2] at hK
  · unfold zOp at hK; rwa [if_neg (by omega), if_pos k, if_neg (by omega)] at hK
  · unfold zOp at hK; rwa [if_neg (by omega), if_pos k, if_pos (by omega)] at hK
  · unfold zOp at hK; rwa [if_neg (by omega), if_neg (by omega), if_pos k, if_neg (by omega)] at hK
  · unfold zOp at hK; rwa [if_neg (by omega), if_neg (by omega), if_pos k, if_pos (by omega)] at hK
  · unfold zOp at hK; rwa [if_neg (by omega), if_neg (by omega), if_neg (by omega), if_pos k] at hK
  · unfold zOp at hK; rwa [if_neg (by omega), if_neg (by omega), if_neg (by omega), if_neg (by omega), if_pos k] at hK
