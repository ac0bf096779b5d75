section
variable {X : aj_T} {cc : ByteArray} {own : String} {nL n pc : Nat} {lv : List (Option aj_V)} {st : List aj_V} {mem : aj_M}
/-- an int out of a long, wrapped -/
def aj_w (x : Int) : Int := (Int32.ofInt x).toInt
theorem aj_i2lW (C : aj_Cx X cc own nL n) {x : Int} (d : decode cc pc = .ok (.i2l, 1)) (k : aj_J X (pc + 1) lv (vL (aj_w x) :: st) mem) : aj_J X pc lv (vI x :: st) mem := by
  obtain ⟨p, l, e, R, s, m, args, below, meth, c, E, A, ce, sl, Q⟩ := X
  obtain ⟨hx, hb, hml, hown, hts, hK, hD, hA, hZ, hfr, hlo, hce, hsl⟩ := C
  intro H locs ls hP hS hl
  refine lv_i2l hx hb d ?_ (k H locs ls hP hS hl)
  have h1 := Int32.le_toInt (Int32.ofInt x)
  have h2 := Int32.toInt_lt (Int32.ofInt x)
  apply Int64.toInt_inj.mp
  rw [Int32.toInt_toInt64, aj_rl (by unfold aj_w; omega)]
  rfl
end
