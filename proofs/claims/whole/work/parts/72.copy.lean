/-! A PLAN COPIED; IMAGE, RESTORE -/
def zcpl (q : List Nat) : List (List Nat) := [q, 0 :: q, 1 :: 0 :: q, 2 :: 0 :: q, 3 :: 0 :: q, 1 :: q, 0 :: 1 :: q, 7 :: q, 8 :: q, 9 :: q]
theorem zc2 (a b : Nat) (q : List Nat) : ¬ (a :: b :: q = q) := fun e => by
  have := congrArg List.length e
  simp only [List.length_cons] at this
  omega
def zcN (q r : List Nat) : Prop := ∀ a ∈ zcpl q, ∀ b ∈ zcpl r, b ≠ a
theorem zcp_off {m : aj_M} {ps pd p : List Nat} {k : Nat} (h : p ≠ pd) : aj_cp m ps (0 : Int).toNat pd (0 : Int).toNat k p = m p := by
  funext j
  simp [aj_cp, aj_ur, h]
theorem zcp_on {m : aj_M} {ps pd : List Nat} {k j : Nat} (h : j < k) : aj_cp m ps (0 : Int).toNat pd (0 : Int).toNat k pd j = m ps j := by
  simp [aj_cp, aj_ur, h]
theorem pX6_copyFrom {f : Nat} {Φ : aj_M → Prop} {q r : List Nat} {m : aj_M} {A : Nat → Int} (hA : wA A) (hP : wP m r A) (hN : zcN q r) (h : ∀ m', zo (zcpl q) m m' → wP m' q A → m' q 10 = -1 → m' q 2 = m r 2 → (∀ j, j < 12 → m' (9 :: q) j = m (9 :: r) j) → Φ m') : wX6_copyFrom f Φ q r m := by
  have h6 := hA.2.2.1
  have h204 := hA.2.2.2.2.2.2.2.1
  have h12 := gOK_n hA.1
  obtain ⟨⟨g1, g2, g3, g4⟩, k2, k3, k4, ⟨H, e1, e2, e3⟩, k6, l1, l2, l3⟩ := hP
  have ne : ∀ {a b : List Nat}, a ∈ zcpl q → b ∈ zcpl r → b ≠ a := fun ha hb => hN _ ha _ hb
  intro x1 s1
  have o1 : ∀ p, p ≠ 0 :: q → x1 p = m p := fun p hp => by rw [s1]; exact zu_off hp
  have r1 : ∀ p, p ∈ zcpl r → x1 p = m p := fun p hp => o1 p (ne (by simp [zcpl]) hp)
  intro x2 s2
  have o2 : ∀ p, p ≠ 1 :: 0 :: q → x2 p = x1 p := fun p hp => by rw [s2]; exact zcp_off hp
  have r2 : ∀ p, p ∈ zcpl r → x2 p = m p := fun p hp => (o2 p (ne (by simp [zcpl]) hp)).trans (r1 p hp)
  intro x3 s3
  have o3 : ∀ p, p ≠ 2 :: 0 :: q → x3 p = x2 p := fun p hp => by rw [s3]; exact zcp_off hp
  have r3 : ∀ p, p ∈ zcpl r → x3 p = m p := fun p hp => (o3 p (ne (by simp [zcpl]) hp)).trans (r2 p hp)
  intro x4 s4
  have o4 : ∀ p, p ≠ 3 :: 0 :: q → x4 p = x3 p := fun p hp => by rw [s4]; exact zcp_off hp
  have r4 : ∀ p, p ∈ zcpl r → x4 p = m p := fun p hp => (o4 p (ne (by simp [zcpl]) hp)).trans (r3 p hp)
  intro x5 s5
  have o5 : ∀ p, p ≠ 1 :: q → x5 p = x4 p := fun p hp => by rw [s5]; exact zu_off hp
  have r5 : ∀ p, p ∈ zcpl r → x5 p = m p := fun p hp => (o5 p (ne (by simp [zcpl]) hp)).trans (r4 p hp)
  rw [r5 (1 :: r) (by simp [zcpl]), l1]
  refine ⟨⟨by omega, by omega, by omega⟩, ⟨by omega, by omega⟩, ?_⟩
  intro x6 s6
  have o6 : ∀ p, p ≠ 0 :: 1 :: q → x6 p = x5 p := fun p hp => by rw [s6]; exact zcp_off hp
  have r6 : ∀ p, p ∈ zcpl r → x6 p = m p := fun p hp => (o6 p (ne (by simp [zcpl]) hp)).trans (r5 p hp)
  intro x7 s7
  have o7 : ∀ p, p ≠ 1 :: q → x7 p = x6 p := fun p hp => by rw [s7]; exact zu_off hp
  have r7 : ∀ p, p ∈ zcpl r → x7 p = m p := fun p hp => (o7 p (ne (by simp [zcpl]) hp)).trans (r6 p hp)
  intro x8 s8
  have o8 : ∀ p, p ≠ 1 :: q → x8 p = x7 p := fun p hp => by rw [s8]; exact zu_off hp
  have r8 : ∀ p, p ∈ zcpl r → x8 p = m p := fun p hp => (o8 p (ne (by simp [zcpl]) hp)).trans (r7 p hp)
  intro x9 s9
  have o9 : ∀ p, p ≠ 1 :: q → x9 p = x8 p := fun p hp => by rw [s9]; exact zu_off hp
  have r9 : ∀ p, p ∈ zcpl r → x9 p = m p := fun p hp => (o9 p (ne (by simp [zcpl]) hp)).trans (r8 p hp)
  intro x10 s10
  have o10 : ∀ p, p ≠ 1 :: q → x10 p = x9 p := fun p hp => by rw [s10]; exact zu_off hp
  have r10 : ∀ p, p ∈ zcpl r → x10 p = m p := fun p hp => (o10 p (ne (by simp [zcpl]) hp)).trans (r9 p hp)
  intro x11 s11
  have o11 : ∀ p, p ≠ q → x11 p = x10 p := fun p hp => by rw [s11]; exact zu_off hp
  have r11 : ∀ p, p ∈ zcpl r → x11 p = m p := fun p hp => (o11 p (ne (by simp [zcpl]) hp)).trans (r10 p hp)
  intro x12 s12
  have o12 : ∀ p, p ≠ q → x12 p = x11 p := fun p hp => by rw [s12]; exact zu_off hp
  have r12 : ∀ p, p ∈ zcpl r → x12 p = m p := fun p hp => (o12 p (ne (by simp [zcpl]) hp)).trans (r11 p hp)
  intro x13 s13
  have o13 : ∀ p, p ≠ q → x13 p = x12 p := fun p hp => by rw [s13]; exact zu_off hp
  have r13 : ∀ p, p ∈ zcpl r → x13 p = m p := fun p hp => (o13 p (ne (by simp [zcpl]) hp)).trans (r12 p hp)
  intro x14 s14
  have o14 : ∀ p, p ≠ q → x14 p = x13 p := fun p hp => by rw [s14]; exact zu_off hp
  have r14 : ∀ p, p ∈ zcpl r → x14 p = m p := fun p hp => (o14 p (ne (by simp [zcpl]) hp)).trans (r13 p hp)
  intro x15 s15
  have o15 : ∀ p, p ≠ q → x15 p = x14 p := fun p hp => by rw [s15]; exact zu_off hp
  have r15 : ∀ p, p ∈ zcpl r → x15 p = m p := fun p hp => (o15 p (ne (by simp [zcpl]) hp)).trans (r14 p hp)
  intro x16 s16
  have o16 : ∀ p, p ≠ q → x16 p = x15 p := fun p hp => by rw [s16]; exact zu_off hp
  have r16 : ∀ p, p ∈ zcpl r → x16 p = m p := fun p hp => (o16 p (ne (by simp [zcpl]) hp)).trans (r15 p hp)
  intro x17 s17
  have o17 : ∀ p, p ≠ 7 :: q → x17 p = x16 p := fun p hp => by rw [s17]; exact zcp_off hp
  have r17 : ∀ p, p ∈ zcpl r → x17 p = m p := fun p hp => (o17 p (ne (by simp [zcpl]) hp)).trans (r16 p hp)
  intro x18 s18
  have o18 : ∀ p, p ≠ 8 :: q → x18 p = x17 p := fun p hp => by rw [s18]; exact zcp_off hp
  have r18 : ∀ p, p ∈ zcpl r → x18 p = m p := fun p hp => (o18 p (ne (by simp [zcpl]) hp)).trans (r17 p hp)
  intro x19 s19
  have o19 : ∀ p, p ≠ 9 :: q → x19 p = x18 p := fun p hp => by rw [s19]; exact zcp_off hp
  have r19 : ∀ p, p ∈ zcpl r → x19 p = m p := fun p hp => (o19 p (ne (by simp [zcpl]) hp)).trans (r18 p hp)
  have fin : ∀ p, p ∉ zcpl q → x19 p = m p := fun p hp => by
    simp only [zcpl, List.mem_cons, List.not_mem_nil, or_false, not_or] at hp
    obtain ⟨p0, p1, p2, p3, p4, p5, p6, p7, p8, p9⟩ := hp
    rw [o19 p p9, o18 p p8, o17 p p7, o16 p p0, o15 p p0, o14 p p0, o13 p p0, o12 p p0, o11 p p0, o10 p p5, o9 p p5, o8 p p5, o7 p p5, o6 p p6, o5 p p5, o4 p p4, o3 p p3, o2 p p2, o1 p p1]
  have v1 : x19 (0 :: q) 0 = m (0 :: r) 0 := by rw [o19 (0 :: q) (by simp [zc2]), o18 (0 :: q) (by simp [zc2]), o17 (0 :: q) (by simp [zc2]), o16 (0 :: q) (by simp [zc2]), o15 (0 :: q) (by simp [zc2]), o14 (0 :: q) (by simp [zc2]), o13 (0 :: q) (by simp [zc2]), o12 (0 :: q) (by simp [zc2]), o11 (0 :: q) (by simp [zc2]), o10 (0 :: q) (by simp [zc2]), o9 (0 :: q) (by simp [zc2]), o8 (0 :: q) (by simp [zc2]), o7 (0 :: q) (by simp [zc2]), o6 (0 :: q) (by simp [zc2]), o5 (0 :: q) (by simp [zc2]), o4 (0 :: q) (by simp [zc2]), o3 (0 :: q) (by simp [zc2]), o2 (0 :: q) (by simp [zc2]), s1, zu_tup, tup_s]
  have v2 : ∀ j, j < (144 : Int).toNat → x19 (1 :: 0 :: q) j = m (1 :: 0 :: r) j := fun j hj => by rw [o19 (1 :: 0 :: q) (by simp [zc2]), o18 (1 :: 0 :: q) (by simp [zc2]), o17 (1 :: 0 :: q) (by simp [zc2]), o16 (1 :: 0 :: q) (by simp [zc2]), o15 (1 :: 0 :: q) (by simp [zc2]), o14 (1 :: 0 :: q) (by simp [zc2]), o13 (1 :: 0 :: q) (by simp [zc2]), o12 (1 :: 0 :: q) (by simp [zc2]), o11 (1 :: 0 :: q) (by simp [zc2]), o10 (1 :: 0 :: q) (by simp [zc2]), o9 (1 :: 0 :: q) (by simp [zc2]), o8 (1 :: 0 :: q) (by simp [zc2]), o7 (1 :: 0 :: q) (by simp [zc2]), o6 (1 :: 0 :: q) (by simp [zc2]), o5 (1 :: 0 :: q) (by simp [zc2]), o4 (1 :: 0 :: q) (by simp [zc2]), o3 (1 :: 0 :: q) (by simp [zc2]), s2, zcp_on hj, r1 (1 :: 0 :: r) (by simp [zcpl])]
  have v3 : ∀ j, j < (12 : Int).toNat → x19 (2 :: 0 :: q) j = m (2 :: 0 :: r) j := fun j hj => by rw [o19 (2 :: 0 :: q) (by simp [zc2]), o18 (2 :: 0 :: q) (by simp [zc2]), o17 (2 :: 0 :: q) (by simp [zc2]), o16 (2 :: 0 :: q) (by simp [zc2]), o15 (2 :: 0 :: q) (by simp [zc2]), o14 (2 :: 0 :: q) (by simp [zc2]), o13 (2 :: 0 :: q) (by simp [zc2]), o12 (2 :: 0 :: q) (by simp [zc2]), o11 (2 :: 0 :: q) (by simp [zc2]), o10 (2 :: 0 :: q) (by simp [zc2]), o9 (2 :: 0 :: q) (by simp [zc2]), o8 (2 :: 0 :: q) (by simp [zc2]), o7 (2 :: 0 :: q) (by simp [zc2]), o6 (2 :: 0 :: q) (by simp [zc2]), o5 (2 :: 0 :: q) (by simp [zc2]), o4 (2 :: 0 :: q) (by simp [zc2]), s3, zcp_on hj, r2 (2 :: 0 :: r) (by simp [zcpl])]
  have v4 : ∀ j, j < (12 : Int).toNat → x19 (3 :: 0 :: q) j = m (3 :: 0 :: r) j := fun j hj => by rw [o19 (3 :: 0 :: q) (by simp [zc2]), o18 (3 :: 0 :: q) (by simp [zc2]), o17 (3 :: 0 :: q) (by simp [zc2]), o16 (3 :: 0 :: q) (by simp [zc2]), o15 (3 :: 0 :: q) (by simp [zc2]), o14 (3 :: 0 :: q) (by simp [zc2]), o13 (3 :: 0 :: q) (by simp [zc2]), o12 (3 :: 0 :: q) (by simp [zc2]), o11 (3 :: 0 :: q) (by simp [zc2]), o10 (3 :: 0 :: q) (by simp [zc2]), o9 (3 :: 0 :: q) (by simp [zc2]), o8 (3 :: 0 :: q) (by simp [zc2]), o7 (3 :: 0 :: q) (by simp [zc2]), o6 (3 :: 0 :: q) (by simp [zc2]), o5 (3 :: 0 :: q) (by simp [zc2]), s4, zcp_on hj, r3 (3 :: 0 :: r) (by simp [zcpl])]
  have v5 : x19 (1 :: q) 1 = m (1 :: r) 1 := by rw [o19 (1 :: q) (by simp [zc2]), o18 (1 :: q) (by simp [zc2]), o17 (1 :: q) (by simp [zc2]), o16 (1 :: q) (by simp [zc2]), o15 (1 :: q) (by simp [zc2]), o14 (1 :: q) (by simp [zc2]), o13 (1 :: q) (by simp [zc2]), o12 (1 :: q) (by simp [zc2]), o11 (1 :: q) (by simp [zc2]), s10, zu_tup, tup_o (by decide), s9, zu_tup, tup_o (by decide), s8, zu_tup, tup_o (by decide), s7, zu_tup, tup_o (by decide), o6 (1 :: q) (by simp [zc2]), s5, zu_tup, tup_s, r4 (1 :: r) (by simp [zcpl])]
  have v6 : ∀ j, j < (A 204).toNat → x19 (0 :: 1 :: q) j = m (0 :: 1 :: r) j := fun j hj => by rw [o19 (0 :: 1 :: q) (by simp [zc2]), o18 (0 :: 1 :: q) (by simp [zc2]), o17 (0 :: 1 :: q) (by simp [zc2]), o16 (0 :: 1 :: q) (by simp [zc2]), o15 (0 :: 1 :: q) (by simp [zc2]), o14 (0 :: 1 :: q) (by simp [zc2]), o13 (0 :: 1 :: q) (by simp [zc2]), o12 (0 :: 1 :: q) (by simp [zc2]), o11 (0 :: 1 :: q) (by simp [zc2]), o10 (0 :: 1 :: q) (by simp [zc2]), o9 (0 :: 1 :: q) (by simp [zc2]), o8 (0 :: 1 :: q) (by simp [zc2]), o7 (0 :: 1 :: q) (by simp [zc2]), s6, zcp_on hj, r5 (0 :: 1 :: r) (by simp [zcpl])]
  have v7 : x19 (1 :: q) 2 = m (1 :: r) 2 := by rw [o19 (1 :: q) (by simp [zc2]), o18 (1 :: q) (by simp [zc2]), o17 (1 :: q) (by simp [zc2]), o16 (1 :: q) (by simp [zc2]), o15 (1 :: q) (by simp [zc2]), o14 (1 :: q) (by simp [zc2]), o13 (1 :: q) (by simp [zc2]), o12 (1 :: q) (by simp [zc2]), o11 (1 :: q) (by simp [zc2]), s10, zu_tup, tup_o (by decide), s9, zu_tup, tup_o (by decide), s8, zu_tup, tup_o (by decide), s7, zu_tup, tup_s, r6 (1 :: r) (by simp [zcpl])]
  have v8 : x19 (1 :: q) 3 = m (1 :: r) 3 := by rw [o19 (1 :: q) (by simp [zc2]), o18 (1 :: q) (by simp [zc2]), o17 (1 :: q) (by simp [zc2]), o16 (1 :: q) (by simp [zc2]), o15 (1 :: q) (by simp [zc2]), o14 (1 :: q) (by simp [zc2]), o13 (1 :: q) (by simp [zc2]), o12 (1 :: q) (by simp [zc2]), o11 (1 :: q) (by simp [zc2]), s10, zu_tup, tup_o (by decide), s9, zu_tup, tup_o (by decide), s8, zu_tup, tup_s, r7 (1 :: r) (by simp [zcpl])]
  have v9 : x19 (1 :: q) 4 = m (1 :: r) 4 := by rw [o19 (1 :: q) (by simp [zc2]), o18 (1 :: q) (by simp [zc2]), o17 (1 :: q) (by simp [zc2]), o16 (1 :: q) (by simp [zc2]), o15 (1 :: q) (by simp [zc2]), o14 (1 :: q) (by simp [zc2]), o13 (1 :: q) (by simp [zc2]), o12 (1 :: q) (by simp [zc2]), o11 (1 :: q) (by simp [zc2]), s10, zu_tup, tup_o (by decide), s9, zu_tup, tup_s, r8 (1 :: r) (by simp [zcpl])]
  have v10 : x19 (1 :: q) 5 = m (1 :: r) 5 := by rw [o19 (1 :: q) (by simp [zc2]), o18 (1 :: q) (by simp [zc2]), o17 (1 :: q) (by simp [zc2]), o16 (1 :: q) (by simp [zc2]), o15 (1 :: q) (by simp [zc2]), o14 (1 :: q) (by simp [zc2]), o13 (1 :: q) (by simp [zc2]), o12 (1 :: q) (by simp [zc2]), o11 (1 :: q) (by simp [zc2]), s10, zu_tup, tup_s, r9 (1 :: r) (by simp [zcpl])]
  have v11 : x19 (q) 2 = m (r) 2 := by rw [o19 (q) (by simp [zc2]), o18 (q) (by simp [zc2]), o17 (q) (by simp [zc2]), s16, zu_tup, tup_o (by decide), s15, zu_tup, tup_o (by decide), s14, zu_tup, tup_o (by decide), s13, zu_tup, tup_o (by decide), s12, zu_tup, tup_o (by decide), s11, zu_tup, tup_s, r10 (r) (by simp [zcpl])]
  have v12 : x19 (q) 3 = m (r) 3 := by rw [o19 (q) (by simp [zc2]), o18 (q) (by simp [zc2]), o17 (q) (by simp [zc2]), s16, zu_tup, tup_o (by decide), s15, zu_tup, tup_o (by decide), s14, zu_tup, tup_o (by decide), s13, zu_tup, tup_o (by decide), s12, zu_tup, tup_s, r11 (r) (by simp [zcpl])]
  have v13 : x19 (q) 4 = m (r) 4 := by rw [o19 (q) (by simp [zc2]), o18 (q) (by simp [zc2]), o17 (q) (by simp [zc2]), s16, zu_tup, tup_o (by decide), s15, zu_tup, tup_o (by decide), s14, zu_tup, tup_o (by decide), s13, zu_tup, tup_s, r12 (r) (by simp [zcpl])]
  have v14 : x19 (q) 5 = m (r) 5 := by rw [o19 (q) (by simp [zc2]), o18 (q) (by simp [zc2]), o17 (q) (by simp [zc2]), s16, zu_tup, tup_o (by decide), s15, zu_tup, tup_o (by decide), s14, zu_tup, tup_s, r13 (r) (by simp [zcpl])]
  have v15 : x19 (q) 6 = m (r) 6 := by rw [o19 (q) (by simp [zc2]), o18 (q) (by simp [zc2]), o17 (q) (by simp [zc2]), s16, zu_tup, tup_o (by decide), s15, zu_tup, tup_s, r14 (r) (by simp [zcpl])]
  have v16 : x19 (q) 10 = -1 := by rw [o19 (q) (by simp [zc2]), o18 (q) (by simp [zc2]), o17 (q) (by simp [zc2]), s16, zu_tup, tup_s]
  have v17 : ∀ j, j < (12 : Int).toNat → x19 (7 :: q) j = m (7 :: r) j := fun j hj => by rw [o19 (7 :: q) (by simp [zc2]), o18 (7 :: q) (by simp [zc2]), s17, zcp_on hj, r16 (7 :: r) (by simp [zcpl])]
  have v18 : ∀ j, j < (12 : Int).toNat → x19 (8 :: q) j = m (8 :: r) j := fun j hj => by rw [o19 (8 :: q) (by simp [zc2]), s18, zcp_on hj, r17 (8 :: r) (by simp [zcpl])]
  have v19 : ∀ j, j < (12 : Int).toNat → x19 (9 :: q) j = m (9 :: r) j := fun j hj => by rw [s19, zcp_on hj, r18 (9 :: r) (by simp [zcpl])]
  refine h x19 fin ⟨⟨by rw [v1]; exact g1, fun x y a b c d => ?_, fun x a b => ?_, fun x a b => ?_⟩, by rw [v12]; exact k2, by rw [v13]; exact k3, by rw [v14]; exact k4, ⟨H, by rw [v15]; exact e1, e2, e3⟩, fun j hj => ?_, by rw [v5]; exact l1, fun i hi => ?_, ?_⟩ v16 v11 (fun j hj => v19 j hj)
  · rw [v2 _ (by show (x * 12 + y).toNat < 144; omega)]
    exact g2 x y a b c d
  · rw [v3 _ (by show x.toNat < 12; omega)]
    exact g3 x a b
  · rw [v4 _ (by show x.toNat < 12; omega)]
    exact g4 x a b
  · rw [v17 j (by show j < 12; omega), v18 j (by show j < 12; omega)]
    exact k6 j hj
  · rw [v6 i (by omega)]
    exact l2 i hi
  · rw [v7, v8, v9, v10]
    exact l3
