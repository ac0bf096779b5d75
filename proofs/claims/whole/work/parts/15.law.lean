def hL_law_18 (f : Nat) (Φ : aj_M → Prop) (xs : Nat → Int32) : Nat → Nat → List Nat → List Nat → List Nat → Int → aj_M → Prop
  | 0, _, _, _, _, _, _ => False
  | k + 1, ba0, a0, q1, q2, v3, m => rI v3 ∧ rI ((ba0 : Int) - 6) ∧ (((ba0 : Int) - 6) < v3 → True) ∧ (¬ (((ba0 : Int) - 6) < v3) → (0 ≤ v3 ∧ v3 < (ba0 : Int)) ∧ rI (aj_and ((xs v3.toNat).toInt) 63) ∧ ((aj_and ((xs v3.toNat).toInt) 63) < 0 ∨ 47 < (aj_and ((xs v3.toNat).toInt) 63) → hL_law_18 f Φ xs k ba0 a0 q1 q2 (v3 + 6) m) ∧ ((aj_and ((xs v3.toNat).toInt) 63) = 0 → (0 ≤ (v3 + 1) ∧ (v3 + 1) < (ba0 : Int)) ∧ (0 ≤ (v3 + 2) ∧ (v3 + 2) < (ba0 : Int)) ∧ (0 ≤ (v3 + 3) ∧ (v3 + 3) < (ba0 : Int)) ∧ (0 ≤ (v3 + 4) ∧ (v3 + 4) < (ba0 : Int)) ∧ (0 ≤ (v3 + 5) ∧ (v3 + 5) < (ba0 : Int)) ∧ wX11_feed f (fun z1 m1 => (0 ≤ (v3 + 1) ∧ (v3 + 1) < (ba0 : Int)) ∧ (0 ≤ (v3 + 2) ∧ (v3 + 2) < (ba0 : Int)) ∧ (0 ≤ (v3 + 3) ∧ (v3 + 3) < (ba0 : Int)) ∧ (0 ≤ (v3 + 4) ∧ (v3 + 4) < (ba0 : Int)) ∧ (0 ≤ (v3 + 5) ∧ (v3 + 5) < (ba0 : Int)) ∧ wX12_feed f (fun z2 m2 => rI z1 ∧ rI z2 ∧ (z1 = z2 → hL_law_18 f Φ xs k ba0 a0 q1 q2 (v3 + 6) m2) ∧ (¬ (z1 = z2) → False)) q2 ((xs (v3 + 1).toNat).toInt) ((xs (v3 + 2).toNat).toInt) ((xs (v3 + 3).toNat).toInt) ((xs (v3 + 4).toNat).toInt) ((xs (v3 + 5).toNat).toInt) m1) q1 ((xs (v3 + 1).toNat).toInt) ((xs (v3 + 2).toNat).toInt) ((xs (v3 + 3).toNat).toInt) ((xs (v3 + 4).toNat).toInt) ((xs (v3 + 5).toNat).toInt) m) ∧ ((aj_and ((xs v3.toNat).toInt) 63) = 1 → (0 ≤ (v3 + 1) ∧ (v3 + 1) < (ba0 : Int)) ∧ wX11_works f (fun z3 m3 => (0 ≤ (v3 + 1) ∧ (v3 + 1) < (ba0 : Int)) ∧ wX12_works f (fun z4 m4 => rI z3 ∧ rI z4 ∧ (z3 = z4 → hL_law_18 f Φ xs k ba0 a0 q1 q2 (v3 + 6) m4) ∧ (¬ (z3 = z4) → False)) q2 ((xs (v3 + 1).toNat).toInt) m3) q1 ((xs (v3 + 1).toNat).toInt) m) ∧ ((aj_and ((xs v3.toNat).toInt) 63) = 2 → (0 ≤ (v3 + 1) ∧ (v3 + 1) < (ba0 : Int)) ∧ wX11_fault f (fun z5 m5 => (0 ≤ (v3 + 1) ∧ (v3 + 1) < (ba0 : Int)) ∧ wX12_fault f (fun z6 m6 => rI z5 ∧ rI z6 ∧ (z5 = z6 → hL_law_18 f Φ xs k ba0 a0 q1 q2 (v3 + 6) m6) ∧ (¬ (z5 = z6) → False)) q2 ((xs (v3 + 1).toNat).toInt) m5) q1 ((xs (v3 + 1).toNat).toInt) m) ∧ ((aj_and ((xs v3.toNat).toInt) 63) = 3 → (0 ≤ (v3 + 1) ∧ (v3 + 1) < (ba0 : Int)) ∧ (0 ≤ (v3 + 2) ∧ (v3 + 2) < (ba0 : Int)) ∧ wX11_arc f (fun z7 m7 => (0 ≤ (v3 + 1) ∧ (v3 + 1) < (ba0 : Int)) ∧ (0 ≤ (v3 + 2) ∧ (v3 + 2) < (ba0 : Int)) ∧ wX12_arc f (fun z8 m8 => rI z7 ∧ rI z8 ∧ (z7 = z8 → hL_law_18 f Φ xs k ba0 a0 q1 q2 (v3 + 6) m8) ∧ (¬ (z7 = z8) → False)) q2 ((xs (v3 + 1).toNat).toInt) ((xs (v3 + 2).toNat).toInt) m7) q1 ((xs (v3 + 1).toNat).toInt) ((xs (v3 + 2).toNat).toInt) m) ∧ ((aj_and ((xs v3.toNat).toInt) 63) = 4 → (0 ≤ (v3 + 1) ∧ (v3 + 1) < (ba0 : Int)) ∧ (0 ≤ (v3 + 2) ∧ (v3 + 2) < (ba0 : Int)) ∧ wX11_product f (fun z9 m9 => (0 ≤ (v3 + 1) ∧ (v3 + 1) < (ba0 : Int)) ∧ (0 ≤ (v3 + 2) ∧ (v3 + 2) < (ba0 : Int)) ∧ wX12_product f (fun z10 m10 => rI z9 ∧ rI z10 ∧ (z9 = z10 → hL_law_18 f Φ xs k ba0 a0 q1 q2 (v3 + 6) m10) ∧ (¬ (z9 = z10) → False)) q2 ((xs (v3 + 1).toNat).toInt) ((xs (v3 + 2).toNat).toInt) m9) q1 ((xs (v3 + 1).toNat).toInt) ((xs (v3 + 2).toNat).toInt) m) ∧ ((aj_and ((xs v3.toNat).toInt) 63) = 5 → (0 ≤ (v3 + 1) ∧ (v3 + 1) < (ba0 : Int)) ∧ wX11_inverse f (fun z11 m11 => (0 ≤ (v3 + 1) ∧ (v3 + 1) < (ba0 : Int)) ∧ wX12_inverse f (fun z12 m12 => rI z11 ∧ rI z12 ∧ (z11 = z12 → hL_law_18 f Φ xs k ba0 a0 q1 q2 (v3 + 6) m12) ∧ (¬ (z11 = z12) → False)) q2 ((xs (v3 + 1).toNat).toInt) m11) q1 ((xs (v3 + 1).toNat).toInt) m) ∧ ((aj_and ((xs v3.toNat).toInt) 63) = 6 → (0 ≤ (v3 + 1) ∧ (v3 + 1) < (ba0 : Int)) ∧ wX11_orderOf f (fun z13 m13 => (0 ≤ (v3 + 1) ∧ (v3 + 1) < (ba0 : Int)) ∧ wX12_orderOf f (fun z14 m14 => rI z13 ∧ rI z14 ∧ (z13 = z14 → hL_law_18 f Φ xs k ba0 a0 q1 q2 (v3 + 6) m14) ∧ (¬ (z13 = z14) → False)) q2 ((xs (v3 + 1).toNat).toInt) m13) q1 ((xs (v3 + 1).toNat).toInt) m) ∧ ((aj_and ((xs v3.toNat).toInt) 63) = 7 → wX11_centre f (fun z15 m15 => wX12_centre f (fun z16 m16 => rI z15 ∧ rI z16 ∧ (z15 = z16 → hL_law_18 f Φ xs k ba0 a0 q1 q2 (v3 + 6) m16) ∧ (¬ (z15 = z16) → False)) q2 m15) q1 m) ∧ ((aj_and ((xs v3.toNat).toInt) 63) = 8 → (0 ≤ (v3 + 1) ∧ (v3 + 1) < (ba0 : Int)) ∧ (0 ≤ (v3 + 2) ∧ (v3 + 2) < (ba0 : Int)) ∧ wX11_turn f (fun z17 m17 => (0 ≤ (v3 + 1) ∧ (v3 + 1) < (ba0 : Int)) ∧ (0 ≤ (v3 + 2) ∧ (v3 + 2) < (ba0 : Int)) ∧ wX12_turn f (fun z18 m18 => rI z17 ∧ rI z18 ∧ (z17 = z18 → hL_law_18 f Φ xs k ba0 a0 q1 q2 (v3 + 6) m18) ∧ (¬ (z17 = z18) → False)) q2 ((xs (v3 + 1).toNat).toInt) ((xs (v3 + 2).toNat).toInt) m17) q1 ((xs (v3 + 1).toNat).toInt) ((xs (v3 + 2).toNat).toInt) m) ∧ ((aj_and ((xs v3.toNat).toInt) 63) = 9 → (0 ≤ (v3 + 1) ∧ (v3 + 1) < (ba0 : Int)) ∧ wX11_cut f (fun z19 m19 => (0 ≤ (v3 + 1) ∧ (v3 + 1) < (ba0 : Int)) ∧ wX12_cut f (fun z20 m20 => rI z19 ∧ rI z20 ∧ (z19 = z20 → hL_law_18 f Φ xs k ba0 a0 q1 q2 (v3 + 6) m20) ∧ (¬ (z19 = z20) → False)) q2 ((xs (v3 + 1).toNat).toInt) m19) q1 ((xs (v3 + 1).toNat).toInt) m) ∧ ((aj_and ((xs v3.toNat).toInt) 63) = 10 → (0 ≤ (v3 + 1) ∧ (v3 + 1) < (ba0 : Int)) ∧ wX11_twist f (fun z21 m21 => (0 ≤ (v3 + 1) ∧ (v3 + 1) < (ba0 : Int)) ∧ wX12_twist f (fun z22 m22 => rI z21 ∧ rI z22 ∧ (z21 = z22 → hL_law_18 f Φ xs k ba0 a0 q1 q2 (v3 + 6) m22) ∧ (¬ (z21 = z22) → False)) q2 ((xs (v3 + 1).toNat).toInt) m21) q1 ((xs (v3 + 1).toNat).toInt) m) ∧ ((aj_and ((xs v3.toNat).toInt) 63) = 11 → (0 ≤ (v3 + 1) ∧ (v3 + 1) < (ba0 : Int)) ∧ wX11_undo f (fun z23 m23 => (0 ≤ (v3 + 1) ∧ (v3 + 1) < (ba0 : Int)) ∧ wX12_undo f (fun z24 m24 => rI z23 ∧ rI z24 ∧ (z23 = z24 → hL_law_18 f Φ xs k ba0 a0 q1 q2 (v3 + 6) m24) ∧ (¬ (z23 = z24) → False)) q2 ((xs (v3 + 1).toNat).toInt) m23) q1 ((xs (v3 + 1).toNat).toInt) m) ∧ ((aj_and ((xs v3.toNat).toInt) 63) = 12 → (0 ≤ (v3 + 1) ∧ (v3 + 1) < (ba0 : Int)) ∧ (0 ≤ (v3 + 2) ∧ (v3 + 2) < (ba0 : Int)) ∧ wX11_judge f (fun z25 m25 => (0 ≤ (v3 + 1) ∧ (v3 + 1) < (ba0 : Int)) ∧ (0 ≤ (v3 + 2) ∧ (v3 + 2) < (ba0 : Int)) ∧ wX12_judge f (fun z26 m26 => rI z25 ∧ rI z26 ∧ (z25 = z26 → hL_law_18 f Φ xs k ba0 a0 q1 q2 (v3 + 6) m26) ∧ (¬ (z25 = z26) → False)) q2 ((xs (v3 + 1).toNat).toInt) ((xs (v3 + 2).toNat).toInt) m25) q1 ((xs (v3 + 1).toNat).toInt) ((xs (v3 + 2).toNat).toInt) m) ∧ ((aj_and ((xs v3.toNat).toInt) 63) = 13 → (0 ≤ (v3 + 1) ∧ (v3 + 1) < (ba0 : Int)) ∧ wX11_perform f (fun z27 m27 => (0 ≤ (v3 + 1) ∧ (v3 + 1) < (ba0 : Int)) ∧ wX12_perform f (fun z28 m28 => rI z27 ∧ rI z28 ∧ (z27 = z28 → hL_law_18 f Φ xs k ba0 a0 q1 q2 (v3 + 6) m28) ∧ (¬ (z27 = z28) → False)) q2 ((xs (v3 + 1).toNat).toInt) m27) q1 ((xs (v3 + 1).toNat).toInt) m) ∧ ((aj_and ((xs v3.toNat).toInt) 63) = 14 → (0 ≤ (v3 + 1) ∧ (v3 + 1) < (ba0 : Int)) ∧ (0 ≤ (v3 + 2) ∧ (v3 + 2) < (ba0 : Int)) ∧ wX11_day f (fun z29 m29 => (0 ≤ (v3 + 1) ∧ (v3 + 1) < (ba0 : Int)) ∧ (0 ≤ (v3 + 2) ∧ (v3 + 2) < (ba0 : Int)) ∧ wX12_day f (fun z30 m30 => rI z29 ∧ rI z30 ∧ (z29 = z30 → hL_law_18 f Φ xs k ba0 a0 q1 q2 (v3 + 6) m30) ∧ (¬ (z29 = z30) → False)) q2 ((xs (v3 + 1).toNat).toInt) ((xs (v3 + 2).toNat).toInt) m29) q1 ((xs (v3 + 1).toNat).toInt) ((xs (v3 + 2).toNat).toInt) m) ∧ ((aj_and ((xs v3.toNat).toInt) 63) = 15 → (0 ≤ (v3 + 1) ∧ (v3 + 1) < (ba0 : Int)) ∧ (0 ≤ (v3 + 2) ∧ (v3 + 2) < (ba0 : Int)) ∧ wX11_joins f (fun z31 m31 => (0 ≤ (v3 + 1) ∧ (v3 + 1) < (ba0 : Int)) ∧ (0 ≤ (v3 + 2) ∧ (v3 + 2) < (ba0 : Int)) ∧ wX12_joins f (fun z32 m32 => rI z31 ∧ rI z32 ∧ (z31 = z32 → hL_law_18 f Φ xs k ba0 a0 q1 q2 (v3 + 6) m32) ∧ (¬ (z31 = z32) → False)) q2 ((xs (v3 + 1).toNat).toInt) ((xs (v3 + 2).toNat).toInt) m31) q1 ((xs (v3 + 1).toNat).toInt) ((xs (v3 + 2).toNat).toInt) m) ∧ ((aj_and ((xs v3.toNat).toInt) 63) = 16 → (0 ≤ (v3 + 1) ∧ (v3 + 1) < (ba0 : Int)) ∧ wX11_degree f (fun z33 m33 => (0 ≤ (v3 + 1) ∧ (v3 + 1) < (ba0 : Int)) ∧ wX12_degree f (fun z34 m34 => rI z33 ∧ rI z34 ∧ (z33 = z34 → hL_law_18 f Φ xs k ba0 a0 q1 q2 (v3 + 6) m34) ∧ (¬ (z33 = z34) → False)) q2 ((xs (v3 + 1).toNat).toInt) m33) q1 ((xs (v3 + 1).toNat).toInt) m) ∧ ((aj_and ((xs v3.toNat).toInt) 63) = 17 → (0 ≤ (v3 + 1) ∧ (v3 + 1) < (ba0 : Int)) ∧ (0 ≤ (v3 + 2) ∧ (v3 + 2) < (ba0 : Int)) ∧ wX11_neighbour f (fun z35 m35 => (0 ≤ (v3 + 1) ∧ (v3 + 1) < (ba0 : Int)) ∧ (0 ≤ (v3 + 2) ∧ (v3 + 2) < (ba0 : Int)) ∧ wX12_neighbour f (fun z36 m36 => rI z35 ∧ rI z36 ∧ (z35 = z36 → hL_law_18 f Φ xs k ba0 a0 q1 q2 (v3 + 6) m36) ∧ (¬ (z35 = z36) → False)) q2 ((xs (v3 + 1).toNat).toInt) ((xs (v3 + 2).toNat).toInt) m35) q1 ((xs (v3 + 1).toNat).toInt) ((xs (v3 + 2).toNat).toInt) m) ∧ ((aj_and ((xs v3.toNat).toInt) 63) = 18 → wX11_regular f (fun z37 m37 => wX12_regular f (fun z38 m38 => rI z37 ∧ rI z38 ∧ (z37 = z38 → hL_law_18 f Φ xs k ba0 a0 q1 q2 (v3 + 6) m38) ∧ (¬ (z37 = z38) → False)) q2 m37) q1 m) ∧ ((aj_and ((xs v3.toNat).toInt) 63) = 19 → wX11_parts f (fun z39 m39 => wX12_parts f (fun z40 m40 => rI z39 ∧ rI z40 ∧ (z39 = z40 → hL_law_18 f Φ xs k ba0 a0 q1 q2 (v3 + 6) m40) ∧ (¬ (z39 = z40) → False)) q2 m39) q1 m) ∧ ((aj_and ((xs v3.toNat).toInt) 63) = 20 → wX11_twoColours f (fun z41 m41 => wX12_twoColours f (fun z42 m42 => rI z41 ∧ rI z42 ∧ (z41 = z42 → hL_law_18 f Φ xs k ba0 a0 q1 q2 (v3 + 6) m42) ∧ (¬ (z41 = z42) → False)) q2 m41) q1 m) ∧ ((aj_and ((xs v3.toNat).toInt) 63) = 21 → (0 ≤ (v3 + 1) ∧ (v3 + 1) < (ba0 : Int)) ∧ (0 ≤ (v3 + 2) ∧ (v3 + 2) < (ba0 : Int)) ∧ wX11_far f (fun z43 m43 => (0 ≤ (v3 + 1) ∧ (v3 + 1) < (ba0 : Int)) ∧ (0 ≤ (v3 + 2) ∧ (v3 + 2) < (ba0 : Int)) ∧ wX12_far f (fun z44 m44 => rI z43 ∧ rI z44 ∧ (z43 = z44 → hL_law_18 f Φ xs k ba0 a0 q1 q2 (v3 + 6) m44) ∧ (¬ (z43 = z44) → False)) q2 ((xs (v3 + 1).toNat).toInt) ((xs (v3 + 2).toNat).toInt) m43) q1 ((xs (v3 + 1).toNat).toInt) ((xs (v3 + 2).toNat).toInt) m) ∧ ((aj_and ((xs v3.toNat).toInt) 63) = 22 → wX11_diameter f (fun z45 m45 => wX12_diameter f (fun z46 m46 => rI z45 ∧ rI z46 ∧ (z45 = z46 → hL_law_18 f Φ xs k ba0 a0 q1 q2 (v3 + 6) m46) ∧ (¬ (z45 = z46) → False)) q2 m45) q1 m) ∧ ((aj_and ((xs v3.toNat).toInt) 63) = 23 → (0 ≤ (v3 + 1) ∧ (v3 + 1) < (ba0 : Int)) ∧ (0 ≤ (v3 + 2) ∧ (v3 + 2) < (ba0 : Int)) ∧ wX11_ball f (fun z47 m47 => (0 ≤ (v3 + 1) ∧ (v3 + 1) < (ba0 : Int)) ∧ (0 ≤ (v3 + 2) ∧ (v3 + 2) < (ba0 : Int)) ∧ wX12_ball f (fun z48 m48 => rI z47 ∧ rI z48 ∧ (z47 = z48 → hL_law_18 f Φ xs k ba0 a0 q1 q2 (v3 + 6) m48) ∧ (¬ (z47 = z48) → False)) q2 ((xs (v3 + 1).toNat).toInt) ((xs (v3 + 2).toNat).toInt) m47) q1 ((xs (v3 + 1).toNat).toInt) ((xs (v3 + 2).toNat).toInt) m) ∧ ((aj_and ((xs v3.toNat).toInt) 63) = 24 → wX11_girth f (fun z49 m49 => wX12_girth f (fun z50 m50 => rI z49 ∧ rI z50 ∧ (z49 = z50 → hL_law_18 f Φ xs k ba0 a0 q1 q2 (v3 + 6) m50) ∧ (¬ (z49 = z50) → False)) q2 m49) q1 m) ∧ ((aj_and ((xs v3.toNat).toInt) 63) = 25 → (0 ≤ (v3 + 1) ∧ (v3 + 1) < (ba0 : Int)) ∧ wX11_ring f (fun z51 m51 => (0 ≤ (v3 + 1) ∧ (v3 + 1) < (ba0 : Int)) ∧ wX12_ring f (fun z52 m52 => rI z51 ∧ rI z52 ∧ (z51 = z52 → hL_law_18 f Φ xs k ba0 a0 q1 q2 (v3 + 6) m52) ∧ (¬ (z51 = z52) → False)) q2 ((xs (v3 + 1).toNat).toInt) m51) q1 ((xs (v3 + 1).toNat).toInt) m) ∧ ((aj_and ((xs v3.toNat).toInt) 63) = 26 → (0 ≤ (v3 + 1) ∧ (v3 + 1) < (ba0 : Int)) ∧ wX11_rings f (fun z53 m53 => (0 ≤ (v3 + 1) ∧ (v3 + 1) < (ba0 : Int)) ∧ wX12_rings f (fun z54 m54 => rI z53 ∧ rI z54 ∧ (z53 = z54 → hL_law_18 f Φ xs k ba0 a0 q1 q2 (v3 + 6) m54) ∧ (¬ (z53 = z54) → False)) q2 ((xs (v3 + 1).toNat).toInt) m53) q1 ((xs (v3 + 1).toNat).toInt) m) ∧ ((aj_and ((xs v3.toNat).toInt) 63) = 27 → (0 ≤ (v3 + 1) ∧ (v3 + 1) < (ba0 : Int)) ∧ wX11_through f (fun z55 m55 => (0 ≤ (v3 + 1) ∧ (v3 + 1) < (ba0 : Int)) ∧ wX12_through f (fun z56 m56 => rI z55 ∧ rI z56 ∧ (z55 = z56 → hL_law_18 f Φ xs k ba0 a0 q1 q2 (v3 + 6) m56) ∧ (¬ (z55 = z56) → False)) q2 ((xs (v3 + 1).toNat).toInt) m55) q1 ((xs (v3 + 1).toNat).toInt) m) ∧ ((aj_and ((xs v3.toNat).toInt) 63) = 28 → (0 ≤ (v3 + 1) ∧ (v3 + 1) < (ba0 : Int)) ∧ (0 ≤ (v3 + 2) ∧ (v3 + 2) < (ba0 : Int)) ∧ wX11_bound f (fun z57 m57 => (0 ≤ (v3 + 1) ∧ (v3 + 1) < (ba0 : Int)) ∧ (0 ≤ (v3 + 2) ∧ (v3 + 2) < (ba0 : Int)) ∧ wX12_bound f (fun z58 m58 => rL z57 ∧ rL z58 ∧ (z57 = z58 → hL_law_18 f Φ xs k ba0 a0 q1 q2 (v3 + 6) m58) ∧ (¬ (z57 = z58) → False)) q2 ((xs (v3 + 1).toNat).toInt) ((xs (v3 + 2).toNat).toInt) m57) q1 ((xs (v3 + 1).toNat).toInt) ((xs (v3 + 2).toNat).toInt) m) ∧ ((aj_and ((xs v3.toNat).toInt) 63) = 29 → wX11_excess f (fun z59 m59 => wX12_excess f (fun z60 m60 => rL z59 ∧ rL z60 ∧ (z59 = z60 → hL_law_18 f Φ xs k ba0 a0 q1 q2 (v3 + 6) m60) ∧ (¬ (z59 = z60) → False)) q2 m59) q1 m) ∧ ((aj_and ((xs v3.toNat).toInt) 63) = 30 → (0 ≤ (v3 + 1) ∧ (v3 + 1) < (ba0 : Int)) ∧ (0 ≤ (v3 + 2) ∧ (v3 + 2) < (ba0 : Int)) ∧ wX11_light f (fun z61 m61 => (0 ≤ (v3 + 1) ∧ (v3 + 1) < (ba0 : Int)) ∧ (0 ≤ (v3 + 2) ∧ (v3 + 2) < (ba0 : Int)) ∧ wX12_light f (fun z62 m62 => rI z61 ∧ rI z62 ∧ (z61 = z62 → hL_law_18 f Φ xs k ba0 a0 q1 q2 (v3 + 6) m62) ∧ (¬ (z61 = z62) → False)) q2 ((xs (v3 + 1).toNat).toInt) ((xs (v3 + 2).toNat).toInt) m61) q1 ((xs (v3 + 1).toNat).toInt) ((xs (v3 + 2).toNat).toInt) m) ∧ ((aj_and ((xs v3.toNat).toInt) 63) = 31 → wX11_lightest f (fun z63 m63 => wX12_lightest f (fun z64 m64 => rI z63 ∧ rI z64 ∧ (z63 = z64 → hL_law_18 f Φ xs k ba0 a0 q1 q2 (v3 + 6) m64) ∧ (¬ (z63 = z64) → False)) q2 m63) q1 m) ∧ ((aj_and ((xs v3.toNat).toInt) 63) = 32 → (0 ≤ (v3 + 1) ∧ (v3 + 1) < (ba0 : Int)) ∧ wX11_walk f (fun z65 m65 => (0 ≤ (v3 + 1) ∧ (v3 + 1) < (ba0 : Int)) ∧ wX12_walk f (fun z66 m66 => rI z65 ∧ rI z66 ∧ (z65 = z66 → hL_law_18 f Φ xs k ba0 a0 q1 q2 (v3 + 6) m66) ∧ (¬ (z65 = z66) → False)) q2 ((xs (v3 + 1).toNat).toInt) m65) q1 ((xs (v3 + 1).toNat).toInt) m) ∧ ((aj_and ((xs v3.toNat).toInt) 63) = 33 → (0 ≤ (v3 + 1) ∧ (v3 + 1) < (ba0 : Int)) ∧ wX11_lifted f (fun z67 m67 => (0 ≤ (v3 + 1) ∧ (v3 + 1) < (ba0 : Int)) ∧ wX12_lifted f (fun z68 m68 => rI z67 ∧ rI z68 ∧ (z67 = z68 → hL_law_18 f Φ xs k ba0 a0 q1 q2 (v3 + 6) m68) ∧ (¬ (z67 = z68) → False)) q2 ((xs (v3 + 1).toNat).toInt) m67) q1 ((xs (v3 + 1).toNat).toInt) m) ∧ ((aj_and ((xs v3.toNat).toInt) 63) = 34 → (0 ≤ (v3 + 1) ∧ (v3 + 1) < (ba0 : Int)) ∧ wX11_tune f (fun z69 m69 => (0 ≤ (v3 + 1) ∧ (v3 + 1) < (ba0 : Int)) ∧ wX12_tune f (fun z70 m70 => rI z69 ∧ rI z70 ∧ (z69 = z70 → hL_law_18 f Φ xs k ba0 a0 q1 q2 (v3 + 6) m70) ∧ (¬ (z69 = z70) → False)) q2 ((xs (v3 + 1).toNat).toInt) m69) q1 ((xs (v3 + 1).toNat).toInt) m) ∧ ((aj_and ((xs v3.toNat).toInt) 63) = 35 → (0 ≤ (v3 + 1) ∧ (v3 + 1) < (ba0 : Int)) ∧ wX11_tuned f (fun z71 m71 => (0 ≤ (v3 + 1) ∧ (v3 + 1) < (ba0 : Int)) ∧ wX12_tuned f (fun z72 m72 => rI z71 ∧ rI z72 ∧ (z71 = z72 → hL_law_18 f Φ xs k ba0 a0 q1 q2 (v3 + 6) m72) ∧ (¬ (z71 = z72) → False)) q2 ((xs (v3 + 1).toNat).toInt) m71) q1 ((xs (v3 + 1).toNat).toInt) m) ∧ ((aj_and ((xs v3.toNat).toInt) 63) = 36 → (0 ≤ (v3 + 1) ∧ (v3 + 1) < (ba0 : Int)) ∧ (0 ≤ (v3 + 2) ∧ (v3 + 2) < (ba0 : Int)) ∧ (0 ≤ (v3 + 3) ∧ (v3 + 3) < (ba0 : Int)) ∧ (0 ≤ (v3 + 4) ∧ (v3 + 4) < (ba0 : Int)) ∧ wX11_search f (fun z73 m73 => (0 ≤ (v3 + 1) ∧ (v3 + 1) < (ba0 : Int)) ∧ (0 ≤ (v3 + 2) ∧ (v3 + 2) < (ba0 : Int)) ∧ (0 ≤ (v3 + 3) ∧ (v3 + 3) < (ba0 : Int)) ∧ (0 ≤ (v3 + 4) ∧ (v3 + 4) < (ba0 : Int)) ∧ wX12_search f (fun z74 m74 => rI z73 ∧ rI z74 ∧ (z73 = z74 → hL_law_18 f Φ xs k ba0 a0 q1 q2 (v3 + 6) m74) ∧ (¬ (z73 = z74) → False)) q2 ((xs (v3 + 1).toNat).toInt) ((xs (v3 + 2).toNat).toInt) ((xs (v3 + 3).toNat).toInt) ((xs (v3 + 4).toNat).toInt) m73) q1 ((xs (v3 + 1).toNat).toInt) ((xs (v3 + 2).toNat).toInt) ((xs (v3 + 3).toNat).toInt) ((xs (v3 + 4).toNat).toInt) m) ∧ ((aj_and ((xs v3.toNat).toInt) 63) = 37 → (0 ≤ (v3 + 1) ∧ (v3 + 1) < (ba0 : Int)) ∧ (0 ≤ (v3 + 2) ∧ (v3 + 2) < (ba0 : Int)) ∧ (0 ≤ (v3 + 3) ∧ (v3 + 3) < (ba0 : Int)) ∧ (0 ≤ (v3 + 4) ∧ (v3 + 4) < (ba0 : Int)) ∧ (0 ≤ (v3 + 5) ∧ (v3 + 5) < (ba0 : Int)) ∧ wX11_found f (fun z75 m75 => (0 ≤ (v3 + 1) ∧ (v3 + 1) < (ba0 : Int)) ∧ (0 ≤ (v3 + 2) ∧ (v3 + 2) < (ba0 : Int)) ∧ (0 ≤ (v3 + 3) ∧ (v3 + 3) < (ba0 : Int)) ∧ (0 ≤ (v3 + 4) ∧ (v3 + 4) < (ba0 : Int)) ∧ (0 ≤ (v3 + 5) ∧ (v3 + 5) < (ba0 : Int)) ∧ wX12_found f (fun z76 m76 => rI z75 ∧ rI z76 ∧ (z75 = z76 → hL_law_18 f Φ xs k ba0 a0 q1 q2 (v3 + 6) m76) ∧ (¬ (z75 = z76) → False)) q2 ((xs (v3 + 1).toNat).toInt) ((xs (v3 + 2).toNat).toInt) ((xs (v3 + 3).toNat).toInt) ((xs (v3 + 4).toNat).toInt) ((xs (v3 + 5).toNat).toInt) m75) q1 ((xs (v3 + 1).toNat).toInt) ((xs (v3 + 2).toNat).toInt) ((xs (v3 + 3).toNat).toInt) ((xs (v3 + 4).toNat).toInt) ((xs (v3 + 5).toNat).toInt) m) ∧ ((aj_and ((xs v3.toNat).toInt) 63) = 38 → (0 ≤ (v3 + 1) ∧ (v3 + 1) < (ba0 : Int)) ∧ wX11_twists f (fun z77 m77 => (0 ≤ (v3 + 1) ∧ (v3 + 1) < (ba0 : Int)) ∧ wX12_twists f (fun z78 m78 => rI z77 ∧ rI z78 ∧ (z77 = z78 → hL_law_18 f Φ xs k ba0 a0 q1 q2 (v3 + 6) m78) ∧ (¬ (z77 = z78) → False)) q2 ((xs (v3 + 1).toNat).toInt) m77) q1 ((xs (v3 + 1).toNat).toInt) m) ∧ ((aj_and ((xs v3.toNat).toInt) 63) = 39 → (0 ≤ (v3 + 1) ∧ (v3 + 1) < (ba0 : Int)) ∧ wX11_weigh f (fun z79 m79 => (0 ≤ (v3 + 1) ∧ (v3 + 1) < (ba0 : Int)) ∧ wX12_weigh f (fun z80 m80 => rI z79 ∧ rI z80 ∧ (z79 = z80 → hL_law_18 f Φ xs k ba0 a0 q1 q2 (v3 + 6) m80) ∧ (¬ (z79 = z80) → False)) q2 ((xs (v3 + 1).toNat).toInt) m79) q1 ((xs (v3 + 1).toNat).toInt) m) ∧ ((aj_and ((xs v3.toNat).toInt) 63) = 40 → (0 ≤ (v3 + 1) ∧ (v3 + 1) < (ba0 : Int)) ∧ (0 ≤ (v3 + 2) ∧ (v3 + 2) < (ba0 : Int)) ∧ (0 ≤ (v3 + 3) ∧ (v3 + 3) < (ba0 : Int)) ∧ wX11_chance f (fun z81 m81 => (0 ≤ (v3 + 1) ∧ (v3 + 1) < (ba0 : Int)) ∧ (0 ≤ (v3 + 2) ∧ (v3 + 2) < (ba0 : Int)) ∧ (0 ≤ (v3 + 3) ∧ (v3 + 3) < (ba0 : Int)) ∧ wX12_chance f (fun z82 m82 => rI z81 ∧ rI z82 ∧ (z81 = z82 → hL_law_18 f Φ xs k ba0 a0 q1 q2 (v3 + 6) m82) ∧ (¬ (z81 = z82) → False)) q2 ((xs (v3 + 1).toNat).toInt) ((xs (v3 + 2).toNat).toInt) ((xs (v3 + 3).toNat).toInt) m81) q1 ((xs (v3 + 1).toNat).toInt) ((xs (v3 + 2).toNat).toInt) ((xs (v3 + 3).toNat).toInt) m) ∧ ((aj_and ((xs v3.toNat).toInt) 63) = 41 → (0 ≤ (v3 + 1) ∧ (v3 + 1) < (ba0 : Int)) ∧ (0 ≤ (v3 + 2) ∧ (v3 + 2) < (ba0 : Int)) ∧ wX11_mean f (fun z83 m83 => (0 ≤ (v3 + 1) ∧ (v3 + 1) < (ba0 : Int)) ∧ (0 ≤ (v3 + 2) ∧ (v3 + 2) < (ba0 : Int)) ∧ wX12_mean f (fun z84 m84 => rI z83 ∧ rI z84 ∧ (z83 = z84 → hL_law_18 f Φ xs k ba0 a0 q1 q2 (v3 + 6) m84) ∧ (¬ (z83 = z84) → False)) q2 ((xs (v3 + 1).toNat).toInt) ((xs (v3 + 2).toNat).toInt) m83) q1 ((xs (v3 + 1).toNat).toInt) ((xs (v3 + 2).toNat).toInt) m) ∧ ((aj_and ((xs v3.toNat).toInt) 63) = 42 → (0 ≤ (v3 + 1) ∧ (v3 + 1) < (ba0 : Int)) ∧ (0 ≤ (v3 + 2) ∧ (v3 + 2) < (ba0 : Int)) ∧ (0 ≤ (v3 + 3) ∧ (v3 + 3) < (ba0 : Int)) ∧ wX11_numbers f (fun z85 m85 => (0 ≤ (v3 + 1) ∧ (v3 + 1) < (ba0 : Int)) ∧ (0 ≤ (v3 + 2) ∧ (v3 + 2) < (ba0 : Int)) ∧ (0 ≤ (v3 + 3) ∧ (v3 + 3) < (ba0 : Int)) ∧ wX12_numbers f (fun z86 m86 => rI z85 ∧ rI z86 ∧ (z85 = z86 → hL_law_18 f Φ xs k ba0 a0 q1 q2 (v3 + 6) m86) ∧ (¬ (z85 = z86) → False)) q2 ((xs (v3 + 1).toNat).toInt) ((xs (v3 + 2).toNat).toInt) ((xs (v3 + 3).toNat).toInt) m85) q1 ((xs (v3 + 1).toNat).toInt) ((xs (v3 + 2).toNat).toInt) ((xs (v3 + 3).toNat).toInt) m) ∧ ((aj_and ((xs v3.toNat).toInt) 63) = 43 → (0 ≤ (v3 + 1) ∧ (v3 + 1) < (ba0 : Int)) ∧ (0 ≤ (v3 + 2) ∧ (v3 + 2) < (ba0 : Int)) ∧ (0 ≤ (v3 + 3) ∧ (v3 + 3) < (ba0 : Int)) ∧ rI ((xs (v3 + 3).toNat).toInt) ∧ (0 ≤ (v3 + 4) ∧ (v3 + 4) < (ba0 : Int)) ∧ rI ((xs (v3 + 4).toNat).toInt) ∧ wX11_write f (fun z87 m87 => (0 ≤ (v3 + 1) ∧ (v3 + 1) < (ba0 : Int)) ∧ (0 ≤ (v3 + 2) ∧ (v3 + 2) < (ba0 : Int)) ∧ (0 ≤ (v3 + 3) ∧ (v3 + 3) < (ba0 : Int)) ∧ rI ((xs (v3 + 3).toNat).toInt) ∧ (0 ≤ (v3 + 4) ∧ (v3 + 4) < (ba0 : Int)) ∧ rI ((xs (v3 + 4).toNat).toInt) ∧ wX12_write f (fun z88 m88 => rL z87 ∧ rL z88 ∧ (z87 = z88 → hL_law_18 f Φ xs k ba0 a0 q1 q2 (v3 + 6) m88) ∧ (¬ (z87 = z88) → False)) q2 ((xs (v3 + 1).toNat).toInt) ((xs (v3 + 2).toNat).toInt) (aj_lorL (aj_lshl ((xs (v3 + 3).toNat).toInt) 32) (aj_landL ((xs (v3 + 4).toNat).toInt) 4294967295)) m87) q1 ((xs (v3 + 1).toNat).toInt) ((xs (v3 + 2).toNat).toInt) (aj_lorL (aj_lshl ((xs (v3 + 3).toNat).toInt) 32) (aj_landL ((xs (v3 + 4).toNat).toInt) 4294967295)) m) ∧ ((aj_and ((xs v3.toNat).toInt) 63) = 44 → (0 ≤ (v3 + 1) ∧ (v3 + 1) < (ba0 : Int)) ∧ wX11_lists f (fun z89 m89 => (0 ≤ (v3 + 1) ∧ (v3 + 1) < (ba0 : Int)) ∧ wX12_lists f (fun z90 m90 => rI z89 ∧ rI z90 ∧ (z89 = z90 → hL_law_18 f Φ xs k ba0 a0 q1 q2 (v3 + 6) m90) ∧ (¬ (z89 = z90) → False)) q2 ((xs (v3 + 1).toNat).toInt) m89) q1 ((xs (v3 + 1).toNat).toInt) m) ∧ ((aj_and ((xs v3.toNat).toInt) 63) = 45 → (0 ≤ (v3 + 1) ∧ (v3 + 1) < (ba0 : Int)) ∧ wX11_image f (fun z91 m91 => (0 ≤ (v3 + 1) ∧ (v3 + 1) < (ba0 : Int)) ∧ wX12_image f (fun z92 m92 => rI z91 ∧ rI z92 ∧ (z91 = z92 → hL_law_18 f Φ xs k ba0 a0 q1 q2 (v3 + 6) m92) ∧ (¬ (z91 = z92) → False)) q2 ((xs (v3 + 1).toNat).toInt) m91) q1 ((xs (v3 + 1).toNat).toInt) m) ∧ ((aj_and ((xs v3.toNat).toInt) 63) = 46 → (0 ≤ (v3 + 1) ∧ (v3 + 1) < (ba0 : Int)) ∧ wX11_restore f (fun z93 m93 => (0 ≤ (v3 + 1) ∧ (v3 + 1) < (ba0 : Int)) ∧ wX12_restore f (fun z94 m94 => rI z93 ∧ rI z94 ∧ (z93 = z94 → hL_law_18 f Φ xs k ba0 a0 q1 q2 (v3 + 6) m94) ∧ (¬ (z93 = z94) → False)) q2 ((xs (v3 + 1).toNat).toInt) m93) q1 ((xs (v3 + 1).toNat).toInt) m) ∧ ((aj_and ((xs v3.toNat).toInt) 63) = 47 → (0 ≤ (v3 + 1) ∧ (v3 + 1) < (ba0 : Int)) ∧ wX11_count f (fun z95 m95 => (0 ≤ (v3 + 1) ∧ (v3 + 1) < (ba0 : Int)) ∧ wX12_count f (fun z96 m96 => rI z95 ∧ rI z96 ∧ (z95 = z96 → hL_law_18 f Φ xs k ba0 a0 q1 q2 (v3 + 6) m96) ∧ (¬ (z95 = z96) → False)) q2 ((xs (v3 + 1).toNat).toInt) m95) q1 ((xs (v3 + 1).toNat).toInt) m))
set_option maxHeartbeats 4000000 in
set_option maxRecDepth 100000 in
theorem tL_law_18 {X : aj_T} {n f : Nat} {Φ : aj_M → Prop} {xs : Nat → Int32} (C : aj_Cx X code RL 4 (n + 81)) (K : lj_K X) : ∀ (k : Nat) (ba0 : Nat) (a0 : List Nat) (q1 : List Nat) (q2 : List Nat) (v3 : Int) (m : aj_M) (ha0 : lj_S X ba0 a0 xs) (hba0 : ba0 < 2147483648) (hq1 : (.inl (11, q1) : aj_R) ∈ aj_pls) (hq2 : (.inl (12, q2) : aj_R) ∈ aj_pls), hL_law_18 f Φ xs k ba0 a0 q1 q2 v3 m → aj_J X 18 [some (vA 10 ba0 a0), some (vO 11 q1), some (vO 12 q2), some (vI v3)] [] m := by
  intro k
  induction k with
  | zero =>
    intro ba0 a0 q1 q2 v3 m _ _ _ _ h
    exact h.elim
  | succ k ih =>
    intro ba0 a0 q1 q2 v3 m ha0 hba0 hq1 hq2 h
    unfold hL_law_18 at h
    refine aj_iload_n C dL_law_18 rfl ?_
    refine aj_aload_n C dL_law_19 rfl ?_
    refine lj_slen C ha0 dL_law_20 ?_
    refine aj_bipush C dL_law_21 (by decide) ?_
    refine aj_isub C dL_law_23 ?_
    obtain ⟨r0, r1, h1, h2⟩ := h
    refine aj_icmp_gt (tgt := 1593) C dL_law_24 (by decide) r0 r1 (fun e => ?_) (fun e => ?_)
    · have h := h1 e
      refine aj_iconst C dL_law_1593 ?_
      exact lj_ret C K dL_law_1594
    · have h := h2 e
      refine aj_aload_n C dL_law_27 rfl ?_
      refine aj_iload_n C dL_law_28 rfl ?_
      obtain ⟨r0, h⟩ := h
      refine lj_sld C ha0 hba0 r0 dL_law_29 ?_
      refine aj_bipush C dL_law_30 (by decide) ?_
      refine aj_iand C dL_law_32 ?_
      obtain ⟨r0, hd, hc0, hc1, hc2, hc3, hc4, hc5, hc6, hc7, hc8, hc9, hc10, hc11, hc12, hc13, hc14, hc15, hc16, hc17, hc18, hc19, hc20, hc21, hc22, hc23, hc24, hc25, hc26, hc27, hc28, hc29, hc30, hc31, hc32, hc33, hc34, hc35, hc36, hc37, hc38, hc39, hc40, hc41, hc42, hc43, hc44, hc45, hc46, hc47⟩ := h
      rcases (by omega : ((aj_and ((xs v3.toNat).toInt) 63) < 0 ∨ 47 < (aj_and ((xs v3.toNat).toInt) 63)) ∨ (aj_and ((xs v3.toNat).toInt) 63) = 0 ∨ (aj_and ((xs v3.toNat).toInt) 63) = 1 ∨ (aj_and ((xs v3.toNat).toInt) 63) = 2 ∨ (aj_and ((xs v3.toNat).toInt) 63) = 3 ∨ (aj_and ((xs v3.toNat).toInt) 63) = 4 ∨ (aj_and ((xs v3.toNat).toInt) 63) = 5 ∨ (aj_and ((xs v3.toNat).toInt) 63) = 6 ∨ (aj_and ((xs v3.toNat).toInt) 63) = 7 ∨ (aj_and ((xs v3.toNat).toInt) 63) = 8 ∨ (aj_and ((xs v3.toNat).toInt) 63) = 9 ∨ (aj_and ((xs v3.toNat).toInt) 63) = 10 ∨ (aj_and ((xs v3.toNat).toInt) 63) = 11 ∨ (aj_and ((xs v3.toNat).toInt) 63) = 12 ∨ (aj_and ((xs v3.toNat).toInt) 63) = 13 ∨ (aj_and ((xs v3.toNat).toInt) 63) = 14 ∨ (aj_and ((xs v3.toNat).toInt) 63) = 15 ∨ (aj_and ((xs v3.toNat).toInt) 63) = 16 ∨ (aj_and ((xs v3.toNat).toInt) 63) = 17 ∨ (aj_and ((xs v3.toNat).toInt) 63) = 18 ∨ (aj_and ((xs v3.toNat).toInt) 63) = 19 ∨ (aj_and ((xs v3.toNat).toInt) 63) = 20 ∨ (aj_and ((xs v3.toNat).toInt) 63) = 21 ∨ (aj_and ((xs v3.toNat).toInt) 63) = 22 ∨ (aj_and ((xs v3.toNat).toInt) 63) = 23 ∨ (aj_and ((xs v3.toNat).toInt) 63) = 24 ∨ (aj_and ((xs v3.toNat).toInt) 63) = 25 ∨ (aj_and ((xs v3.toNat).toInt) 63) = 26 ∨ (aj_and ((xs v3.toNat).toInt) 63) = 27 ∨ (aj_and ((xs v3.toNat).toInt) 63) = 28 ∨ (aj_and ((xs v3.toNat).toInt) 63) = 29 ∨ (aj_and ((xs v3.toNat).toInt) 63) = 30 ∨ (aj_and ((xs v3.toNat).toInt) 63) = 31 ∨ (aj_and ((xs v3.toNat).toInt) 63) = 32 ∨ (aj_and ((xs v3.toNat).toInt) 63) = 33 ∨ (aj_and ((xs v3.toNat).toInt) 63) = 34 ∨ (aj_and ((xs v3.toNat).toInt) 63) = 35 ∨ (aj_and ((xs v3.toNat).toInt) 63) = 36 ∨ (aj_and ((xs v3.toNat).toInt) 63) = 37 ∨ (aj_and ((xs v3.toNat).toInt) 63) = 38 ∨ (aj_and ((xs v3.toNat).toInt) 63) = 39 ∨ (aj_and ((xs v3.toNat).toInt) 63) = 40 ∨ (aj_and ((xs v3.toNat).toInt) 63) = 41 ∨ (aj_and ((xs v3.toNat).toInt) 63) = 42 ∨ (aj_and ((xs v3.toNat).toInt) 63) = 43 ∨ (aj_and ((xs v3.toNat).toInt) 63) = 44 ∨ (aj_and ((xs v3.toNat).toInt) 63) = 45 ∨ (aj_and ((xs v3.toNat).toInt) 63) = 46 ∨ (aj_and ((xs v3.toNat).toInt) 63) = 47) with e | e | e | e | e | e | e | e | e | e | e | e | e | e | e | e | e | e | e | e | e | e | e | e | e | e | e | e | e | e | e | e | e | e | e | e | e | e | e | e | e | e | e | e | e | e | e | e | e
      · have h := hd e
        refine aj_tout (tgt := 1587) C dL_law_33 r0 e (by decide) ?_
        refine aj_iinc (lv' := [some (vA 10 ba0 a0), some (vO 11 q1), some (vO 12 q2), some (vI (v3 + 6))]) C dL_law_1587 rfl (by decide) rfl ?_
        refine aj_goto (tgt := 18) C dL_law_1590 (by decide) ?_
        exact ih ba0 a0 q1 q2 (v3 + 6) _ ha0 hba0 hq1 hq2 h
      · have h := hc0 e
        refine aj_tin (tgt := 240) (off := 207) C dL_law_33 r0 (by omega) (by omega) (by rw [e]; rfl) (by decide) ?_
        refine aj_aload_n C dL_law_240 rfl ?_
        refine aj_aload_n C dL_law_241 rfl ?_
        refine aj_iload_n C dL_law_242 rfl ?_
        refine aj_iconst C dL_law_243 ?_
        refine aj_iadd C dL_law_244 ?_
        obtain ⟨r0, h⟩ := h
        refine lj_sld C ha0 hba0 r0 dL_law_245 ?_
        refine aj_aload_n C dL_law_246 rfl ?_
        refine aj_iload_n C dL_law_247 rfl ?_
        refine aj_iconst C dL_law_248 ?_
        refine aj_iadd C dL_law_249 ?_
        obtain ⟨r0, h⟩ := h
        refine lj_sld C ha0 hba0 r0 dL_law_250 ?_
        refine aj_aload_n C dL_law_251 rfl ?_
        refine aj_iload_n C dL_law_252 rfl ?_
        refine aj_iconst C dL_law_253 ?_
        refine aj_iadd C dL_law_254 ?_
        obtain ⟨r0, h⟩ := h
        refine lj_sld C ha0 hba0 r0 dL_law_255 ?_
        refine aj_aload_n C dL_law_256 rfl ?_
        refine aj_iload_n C dL_law_257 rfl ?_
        refine aj_iconst C dL_law_258 ?_
        refine aj_iadd C dL_law_259 ?_
        obtain ⟨r0, h⟩ := h
        refine lj_sld C ha0 hba0 r0 dL_law_260 ?_
        refine aj_aload_n C dL_law_261 rfl ?_
        refine aj_iload_n C dL_law_262 rfl ?_
        refine aj_iconst C dL_law_263 ?_
        refine aj_iadd C dL_law_264 ?_
        obtain ⟨r0, h⟩ := h
        refine lj_sld C ha0 hba0 r0 dL_law_265 ?_
        refine aj_callV (rest := []) C mvL_13 (sX11_feed hq1 h) hq1 (aj_np 5 (by decide +kernel) rfl) (Nat.le_of_ble_eq_true rfl) rfl dL_law_266 (fun r m1 h => ?_)
        obtain ⟨z1, rfl, h⟩ := h
        refine aj_aload_n C dL_law_269 rfl ?_
        refine aj_aload_n C dL_law_270 rfl ?_
        refine aj_iload_n C dL_law_271 rfl ?_
        refine aj_iconst C dL_law_272 ?_
        refine aj_iadd C dL_law_273 ?_
        obtain ⟨r0, h⟩ := h
        refine lj_sld C ha0 hba0 r0 dL_law_274 ?_
        refine aj_aload_n C dL_law_275 rfl ?_
        refine aj_iload_n C dL_law_276 rfl ?_
        refine aj_iconst C dL_law_277 ?_
        refine aj_iadd C dL_law_278 ?_
        obtain ⟨r0, h⟩ := h
        refine lj_sld C ha0 hba0 r0 dL_law_279 ?_
        refine aj_aload_n C dL_law_280 rfl ?_
        refine aj_iload_n C dL_law_281 rfl ?_
        refine aj_iconst C dL_law_282 ?_
        refine aj_iadd C dL_law_283 ?_
        obtain ⟨r0, h⟩ := h
        refine lj_sld C ha0 hba0 r0 dL_law_284 ?_
        refine aj_aload_n C dL_law_285 rfl ?_
        refine aj_iload_n C dL_law_286 rfl ?_
        refine aj_iconst C dL_law_287 ?_
        refine aj_iadd C dL_law_288 ?_
        obtain ⟨r0, h⟩ := h
        refine lj_sld C ha0 hba0 r0 dL_law_289 ?_
        refine aj_aload_n C dL_law_290 rfl ?_
        refine aj_iload_n C dL_law_291 rfl ?_
        refine aj_iconst C dL_law_292 ?_
        refine aj_iadd C dL_law_293 ?_
        obtain ⟨r0, h⟩ := h
        refine lj_sld C ha0 hba0 r0 dL_law_294 ?_
        refine aj_callV (rest := [vI z1]) C mvL_17 (sX12_feed hq2 h) hq2 (aj_np 5 (by decide +kernel) rfl) (Nat.le_of_ble_eq_true rfl) rfl dL_law_295 (fun r m2 h => ?_)
        obtain ⟨z2, rfl, h⟩ := h
        obtain ⟨r0, r1, h1, h2⟩ := h
        refine aj_icmp_eq (tgt := 1587) C dL_law_298 (by decide) r0 r1 (fun e => ?_) (fun e => ?_)
        · have h := h1 e
          refine aj_iinc (lv' := [some (vA 10 ba0 a0), some (vO 11 q1), some (vO 12 q2), some (vI (v3 + 6))]) C dL_law_1587 rfl (by decide) rfl ?_
          refine aj_goto (tgt := 18) C dL_law_1590 (by decide) ?_
          exact ih ba0 a0 q1 q2 (v3 + 6) _ ha0 hba0 hq1 hq2 h
        · have h := h2 e
          refine aj_iconst C dL_law_301 ?_
          exact h.elim
      · have h := hc1 e
        refine aj_tin (tgt := 303) (off := 270) C dL_law_33 r0 (by omega) (by omega) (by rw [e]; rfl) (by decide) ?_
        refine aj_aload_n C dL_law_303 rfl ?_
        refine aj_aload_n C dL_law_304 rfl ?_
        refine aj_iload_n C dL_law_305 rfl ?_
        refine aj_iconst C dL_law_306 ?_
        refine aj_iadd C dL_law_307 ?_
        obtain ⟨r0, h⟩ := h
        refine lj_sld C ha0 hba0 r0 dL_law_308 ?_
        refine aj_callV (rest := []) C mvL_18 (sX11_works hq1 h) hq1 (aj_np 1 (by decide +kernel) rfl) (Nat.le_of_ble_eq_true rfl) rfl dL_law_309 (fun r m3 h => ?_)
        obtain ⟨z3, rfl, h⟩ := h
        refine aj_aload_n C dL_law_312 rfl ?_
        refine aj_aload_n C dL_law_313 rfl ?_
        refine aj_iload_n C dL_law_314 rfl ?_
        refine aj_iconst C dL_law_315 ?_
        refine aj_iadd C dL_law_316 ?_
        obtain ⟨r0, h⟩ := h
        refine lj_sld C ha0 hba0 r0 dL_law_317 ?_
        refine aj_callV (rest := [vI z3]) C mvL_22 (sX12_works hq2 h) hq2 (aj_np 1 (by decide +kernel) rfl) (Nat.le_of_ble_eq_true rfl) rfl dL_law_318 (fun r m4 h => ?_)
        obtain ⟨z4, rfl, h⟩ := h
        obtain ⟨r0, r1, h1, h2⟩ := h
        refine aj_icmp_eq (tgt := 1587) C dL_law_321 (by decide) r0 r1 (fun e => ?_) (fun e => ?_)
        · have h := h1 e
          refine aj_iinc (lv' := [some (vA 10 ba0 a0), some (vO 11 q1), some (vO 12 q2), some (vI (v3 + 6))]) C dL_law_1587 rfl (by decide) rfl ?_
          refine aj_goto (tgt := 18) C dL_law_1590 (by decide) ?_
          exact ih ba0 a0 q1 q2 (v3 + 6) _ ha0 hba0 hq1 hq2 h
        · have h := h2 e
          refine aj_iconst C dL_law_324 ?_
          exact h.elim
      · have h := hc2 e
        refine aj_tin (tgt := 326) (off := 293) C dL_law_33 r0 (by omega) (by omega) (by rw [e]; rfl) (by decide) ?_
        refine aj_aload_n C dL_law_326 rfl ?_
        refine aj_aload_n C dL_law_327 rfl ?_
        refine aj_iload_n C dL_law_328 rfl ?_
        refine aj_iconst C dL_law_329 ?_
        refine aj_iadd C dL_law_330 ?_
        obtain ⟨r0, h⟩ := h
        refine lj_sld C ha0 hba0 r0 dL_law_331 ?_
        refine aj_callV (rest := []) C mvL_23 (sX11_fault hq1 h) hq1 (aj_np 1 (by decide +kernel) rfl) (Nat.le_of_ble_eq_true rfl) rfl dL_law_332 (fun r m5 h => ?_)
        obtain ⟨z5, rfl, h⟩ := h
        refine aj_aload_n C dL_law_335 rfl ?_
        refine aj_aload_n C dL_law_336 rfl ?_
        refine aj_iload_n C dL_law_337 rfl ?_
        refine aj_iconst C dL_law_338 ?_
        refine aj_iadd C dL_law_339 ?_
        obtain ⟨r0, h⟩ := h
        refine lj_sld C ha0 hba0 r0 dL_law_340 ?_
        refine aj_callV (rest := [vI z5]) C mvL_26 (sX12_fault hq2 h) hq2 (aj_np 1 (by decide +kernel) rfl) (Nat.le_of_ble_eq_true rfl) rfl dL_law_341 (fun r m6 h => ?_)
        obtain ⟨z6, rfl, h⟩ := h
        obtain ⟨r0, r1, h1, h2⟩ := h
        refine aj_icmp_eq (tgt := 1587) C dL_law_344 (by decide) r0 r1 (fun e => ?_) (fun e => ?_)
        · have h := h1 e
          refine aj_iinc (lv' := [some (vA 10 ba0 a0), some (vO 11 q1), some (vO 12 q2), some (vI (v3 + 6))]) C dL_law_1587 rfl (by decide) rfl ?_
          refine aj_goto (tgt := 18) C dL_law_1590 (by decide) ?_
          exact ih ba0 a0 q1 q2 (v3 + 6) _ ha0 hba0 hq1 hq2 h
        · have h := h2 e
          refine aj_iconst C dL_law_347 ?_
          exact h.elim
      · have h := hc3 e
        refine aj_tin (tgt := 349) (off := 316) C dL_law_33 r0 (by omega) (by omega) (by rw [e]; rfl) (by decide) ?_
        refine aj_aload_n C dL_law_349 rfl ?_
        refine aj_aload_n C dL_law_350 rfl ?_
        refine aj_iload_n C dL_law_351 rfl ?_
        refine aj_iconst C dL_law_352 ?_
        refine aj_iadd C dL_law_353 ?_
        obtain ⟨r0, h⟩ := h
        refine lj_sld C ha0 hba0 r0 dL_law_354 ?_
        refine aj_aload_n C dL_law_355 rfl ?_
        refine aj_iload_n C dL_law_356 rfl ?_
        refine aj_iconst C dL_law_357 ?_
        refine aj_iadd C dL_law_358 ?_
        obtain ⟨r0, h⟩ := h
        refine lj_sld C ha0 hba0 r0 dL_law_359 ?_
        refine aj_callV (rest := []) C mvL_27 (sX11_arc hq1 h) hq1 (aj_np 2 (by decide +kernel) rfl) (Nat.le_of_ble_eq_true rfl) rfl dL_law_360 (fun r m7 h => ?_)
        obtain ⟨z7, rfl, h⟩ := h
        refine aj_aload_n C dL_law_363 rfl ?_
        refine aj_aload_n C dL_law_364 rfl ?_
        refine aj_iload_n C dL_law_365 rfl ?_
        refine aj_iconst C dL_law_366 ?_
        refine aj_iadd C dL_law_367 ?_
        obtain ⟨r0, h⟩ := h
        refine lj_sld C ha0 hba0 r0 dL_law_368 ?_
        refine aj_aload_n C dL_law_369 rfl ?_
        refine aj_iload_n C dL_law_370 rfl ?_
        refine aj_iconst C dL_law_371 ?_
        refine aj_iadd C dL_law_372 ?_
        obtain ⟨r0, h⟩ := h
        refine lj_sld C ha0 hba0 r0 dL_law_373 ?_
        refine aj_callV (rest := [vI z7]) C mvL_31 (sX12_arc hq2 h) hq2 (aj_np 2 (by decide +kernel) rfl) (Nat.le_of_ble_eq_true rfl) rfl dL_law_374 (fun r m8 h => ?_)
        obtain ⟨z8, rfl, h⟩ := h
        obtain ⟨r0, r1, h1, h2⟩ := h
        refine aj_icmp_eq (tgt := 1587) C dL_law_377 (by decide) r0 r1 (fun e => ?_) (fun e => ?_)
        · have h := h1 e
          refine aj_iinc (lv' := [some (vA 10 ba0 a0), some (vO 11 q1), some (vO 12 q2), some (vI (v3 + 6))]) C dL_law_1587 rfl (by decide) rfl ?_
          refine aj_goto (tgt := 18) C dL_law_1590 (by decide) ?_
          exact ih ba0 a0 q1 q2 (v3 + 6) _ ha0 hba0 hq1 hq2 h
        · have h := h2 e
          refine aj_iconst C dL_law_380 ?_
          exact h.elim
      · have h := hc4 e
        refine aj_tin (tgt := 382) (off := 349) C dL_law_33 r0 (by omega) (by omega) (by rw [e]; rfl) (by decide) ?_
        refine aj_aload_n C dL_law_382 rfl ?_
        refine aj_aload_n C dL_law_383 rfl ?_
        refine aj_iload_n C dL_law_384 rfl ?_
        refine aj_iconst C dL_law_385 ?_
        refine aj_iadd C dL_law_386 ?_
        obtain ⟨r0, h⟩ := h
        refine lj_sld C ha0 hba0 r0 dL_law_387 ?_
        refine aj_aload_n C dL_law_388 rfl ?_
        refine aj_iload_n C dL_law_389 rfl ?_
        refine aj_iconst C dL_law_390 ?_
        refine aj_iadd C dL_law_391 ?_
        obtain ⟨r0, h⟩ := h
        refine lj_sld C ha0 hba0 r0 dL_law_392 ?_
        refine aj_callV (rest := []) C mvL_32 (sX11_product hq1 h) hq1 (aj_np 2 (by decide +kernel) rfl) (Nat.le_of_ble_eq_true rfl) rfl dL_law_393 (fun r m9 h => ?_)
        obtain ⟨z9, rfl, h⟩ := h
        refine aj_aload_n C dL_law_396 rfl ?_
        refine aj_aload_n C dL_law_397 rfl ?_
        refine aj_iload_n C dL_law_398 rfl ?_
        refine aj_iconst C dL_law_399 ?_
        refine aj_iadd C dL_law_400 ?_
        obtain ⟨r0, h⟩ := h
        refine lj_sld C ha0 hba0 r0 dL_law_401 ?_
        refine aj_aload_n C dL_law_402 rfl ?_
        refine aj_iload_n C dL_law_403 rfl ?_
        refine aj_iconst C dL_law_404 ?_
        refine aj_iadd C dL_law_405 ?_
        obtain ⟨r0, h⟩ := h
        refine lj_sld C ha0 hba0 r0 dL_law_406 ?_
        refine aj_callV (rest := [vI z9]) C mvL_35 (sX12_product hq2 h) hq2 (aj_np 2 (by decide +kernel) rfl) (Nat.le_of_ble_eq_true rfl) rfl dL_law_407 (fun r m10 h => ?_)
        obtain ⟨z10, rfl, h⟩ := h
        obtain ⟨r0, r1, h1, h2⟩ := h
        refine aj_icmp_eq (tgt := 1587) C dL_law_410 (by decide) r0 r1 (fun e => ?_) (fun e => ?_)
        · have h := h1 e
          refine aj_iinc (lv' := [some (vA 10 ba0 a0), some (vO 11 q1), some (vO 12 q2), some (vI (v3 + 6))]) C dL_law_1587 rfl (by decide) rfl ?_
          refine aj_goto (tgt := 18) C dL_law_1590 (by decide) ?_
          exact ih ba0 a0 q1 q2 (v3 + 6) _ ha0 hba0 hq1 hq2 h
        · have h := h2 e
          refine aj_iconst C dL_law_413 ?_
          exact h.elim
      · have h := hc5 e
        refine aj_tin (tgt := 415) (off := 382) C dL_law_33 r0 (by omega) (by omega) (by rw [e]; rfl) (by decide) ?_
        refine aj_aload_n C dL_law_415 rfl ?_
        refine aj_aload_n C dL_law_416 rfl ?_
        refine aj_iload_n C dL_law_417 rfl ?_
        refine aj_iconst C dL_law_418 ?_
        refine aj_iadd C dL_law_419 ?_
        obtain ⟨r0, h⟩ := h
        refine lj_sld C ha0 hba0 r0 dL_law_420 ?_
        refine aj_callV (rest := []) C mvL_36 (sX11_inverse hq1 h) hq1 (aj_np 1 (by decide +kernel) rfl) (Nat.le_of_ble_eq_true rfl) rfl dL_law_421 (fun r m11 h => ?_)
        obtain ⟨z11, rfl, h⟩ := h
        refine aj_aload_n C dL_law_424 rfl ?_
        refine aj_aload_n C dL_law_425 rfl ?_
        refine aj_iload_n C dL_law_426 rfl ?_
        refine aj_iconst C dL_law_427 ?_
        refine aj_iadd C dL_law_428 ?_
        obtain ⟨r0, h⟩ := h
        refine lj_sld C ha0 hba0 r0 dL_law_429 ?_
        refine aj_callV (rest := [vI z11]) C mvL_39 (sX12_inverse hq2 h) hq2 (aj_np 1 (by decide +kernel) rfl) (Nat.le_of_ble_eq_true rfl) rfl dL_law_430 (fun r m12 h => ?_)
        obtain ⟨z12, rfl, h⟩ := h
        obtain ⟨r0, r1, h1, h2⟩ := h
        refine aj_icmp_eq (tgt := 1587) C dL_law_433 (by decide) r0 r1 (fun e => ?_) (fun e => ?_)
        · have h := h1 e
          refine aj_iinc (lv' := [some (vA 10 ba0 a0), some (vO 11 q1), some (vO 12 q2), some (vI (v3 + 6))]) C dL_law_1587 rfl (by decide) rfl ?_
          refine aj_goto (tgt := 18) C dL_law_1590 (by decide) ?_
          exact ih ba0 a0 q1 q2 (v3 + 6) _ ha0 hba0 hq1 hq2 h
        · have h := h2 e
          refine aj_iconst C dL_law_436 ?_
          exact h.elim
      · have h := hc6 e
        refine aj_tin (tgt := 438) (off := 405) C dL_law_33 r0 (by omega) (by omega) (by rw [e]; rfl) (by decide) ?_
        refine aj_aload_n C dL_law_438 rfl ?_
        refine aj_aload_n C dL_law_439 rfl ?_
        refine aj_iload_n C dL_law_440 rfl ?_
        refine aj_iconst C dL_law_441 ?_
        refine aj_iadd C dL_law_442 ?_
        obtain ⟨r0, h⟩ := h
        refine lj_sld C ha0 hba0 r0 dL_law_443 ?_
        refine aj_callV (rest := []) C mvL_40 (sX11_orderOf hq1 h) hq1 (aj_np 1 (by decide +kernel) rfl) (Nat.le_of_ble_eq_true rfl) rfl dL_law_444 (fun r m13 h => ?_)
        obtain ⟨z13, rfl, h⟩ := h
        refine aj_aload_n C dL_law_447 rfl ?_
        refine aj_aload_n C dL_law_448 rfl ?_
        refine aj_iload_n C dL_law_449 rfl ?_
        refine aj_iconst C dL_law_450 ?_
        refine aj_iadd C dL_law_451 ?_
        obtain ⟨r0, h⟩ := h
        refine lj_sld C ha0 hba0 r0 dL_law_452 ?_
        refine aj_callV (rest := [vI z13]) C mvL_43 (sX12_orderOf hq2 h) hq2 (aj_np 1 (by decide +kernel) rfl) (Nat.le_of_ble_eq_true rfl) rfl dL_law_453 (fun r m14 h => ?_)
        obtain ⟨z14, rfl, h⟩ := h
        obtain ⟨r0, r1, h1, h2⟩ := h
        refine aj_icmp_eq (tgt := 1587) C dL_law_456 (by decide) r0 r1 (fun e => ?_) (fun e => ?_)
        · have h := h1 e
          refine aj_iinc (lv' := [some (vA 10 ba0 a0), some (vO 11 q1), some (vO 12 q2), some (vI (v3 + 6))]) C dL_law_1587 rfl (by decide) rfl ?_
          refine aj_goto (tgt := 18) C dL_law_1590 (by decide) ?_
          exact ih ba0 a0 q1 q2 (v3 + 6) _ ha0 hba0 hq1 hq2 h
        · have h := h2 e
          refine aj_iconst C dL_law_459 ?_
          exact h.elim
      · have h := hc7 e
        refine aj_tin (tgt := 461) (off := 428) C dL_law_33 r0 (by omega) (by omega) (by rw [e]; rfl) (by decide) ?_
        refine aj_aload_n C dL_law_461 rfl ?_
        refine aj_callV (rest := []) C mvL_44 (sX11_centre hq1 h) hq1 (aj_np 0 (by decide +kernel) rfl) (Nat.le_of_ble_eq_true rfl) rfl dL_law_462 (fun r m15 h => ?_)
        obtain ⟨z15, rfl, h⟩ := h
        refine aj_aload_n C dL_law_465 rfl ?_
        refine aj_callV (rest := [vI z15]) C mvL_48 (sX12_centre hq2 h) hq2 (aj_np 0 (by decide +kernel) rfl) (Nat.le_of_ble_eq_true rfl) rfl dL_law_466 (fun r m16 h => ?_)
        obtain ⟨z16, rfl, h⟩ := h
        obtain ⟨r0, r1, h1, h2⟩ := h
        refine aj_icmp_eq (tgt := 1587) C dL_law_469 (by decide) r0 r1 (fun e => ?_) (fun e => ?_)
        · have h := h1 e
          refine aj_iinc (lv' := [some (vA 10 ba0 a0), some (vO 11 q1), some (vO 12 q2), some (vI (v3 + 6))]) C dL_law_1587 rfl (by decide) rfl ?_
          refine aj_goto (tgt := 18) C dL_law_1590 (by decide) ?_
          exact ih ba0 a0 q1 q2 (v3 + 6) _ ha0 hba0 hq1 hq2 h
        · have h := h2 e
          refine aj_iconst C dL_law_472 ?_
          exact h.elim
      · have h := hc8 e
        refine aj_tin (tgt := 474) (off := 441) C dL_law_33 r0 (by omega) (by omega) (by rw [e]; rfl) (by decide) ?_
        refine aj_aload_n C dL_law_474 rfl ?_
        refine aj_aload_n C dL_law_475 rfl ?_
        refine aj_iload_n C dL_law_476 rfl ?_
        refine aj_iconst C dL_law_477 ?_
        refine aj_iadd C dL_law_478 ?_
        obtain ⟨r0, h⟩ := h
        refine lj_sld C ha0 hba0 r0 dL_law_479 ?_
        refine aj_aload_n C dL_law_480 rfl ?_
        refine aj_iload_n C dL_law_481 rfl ?_
        refine aj_iconst C dL_law_482 ?_
        refine aj_iadd C dL_law_483 ?_
        obtain ⟨r0, h⟩ := h
        refine lj_sld C ha0 hba0 r0 dL_law_484 ?_
        refine aj_callV (rest := []) C mvL_49 (sX11_turn hq1 h) hq1 (aj_np 2 (by decide +kernel) rfl) (Nat.le_of_ble_eq_true rfl) rfl dL_law_485 (fun r m17 h => ?_)
        obtain ⟨z17, rfl, h⟩ := h
        refine aj_aload_n C dL_law_488 rfl ?_
        refine aj_aload_n C dL_law_489 rfl ?_
        refine aj_iload_n C dL_law_490 rfl ?_
        refine aj_iconst C dL_law_491 ?_
        refine aj_iadd C dL_law_492 ?_
        obtain ⟨r0, h⟩ := h
        refine lj_sld C ha0 hba0 r0 dL_law_493 ?_
        refine aj_aload_n C dL_law_494 rfl ?_
        refine aj_iload_n C dL_law_495 rfl ?_
        refine aj_iconst C dL_law_496 ?_
        refine aj_iadd C dL_law_497 ?_
        obtain ⟨r0, h⟩ := h
        refine lj_sld C ha0 hba0 r0 dL_law_498 ?_
        refine aj_callV (rest := [vI z17]) C mvL_52 (sX12_turn hq2 h) hq2 (aj_np 2 (by decide +kernel) rfl) (Nat.le_of_ble_eq_true rfl) rfl dL_law_499 (fun r m18 h => ?_)
        obtain ⟨z18, rfl, h⟩ := h
        obtain ⟨r0, r1, h1, h2⟩ := h
        refine aj_icmp_eq (tgt := 1587) C dL_law_502 (by decide) r0 r1 (fun e => ?_) (fun e => ?_)
        · have h := h1 e
          refine aj_iinc (lv' := [some (vA 10 ba0 a0), some (vO 11 q1), some (vO 12 q2), some (vI (v3 + 6))]) C dL_law_1587 rfl (by decide) rfl ?_
          refine aj_goto (tgt := 18) C dL_law_1590 (by decide) ?_
          exact ih ba0 a0 q1 q2 (v3 + 6) _ ha0 hba0 hq1 hq2 h
        · have h := h2 e
          refine aj_iconst C dL_law_505 ?_
          exact h.elim
      · have h := hc9 e
        refine aj_tin (tgt := 507) (off := 474) C dL_law_33 r0 (by omega) (by omega) (by rw [e]; rfl) (by decide) ?_
        refine aj_aload_n C dL_law_507 rfl ?_
        refine aj_aload_n C dL_law_508 rfl ?_
        refine aj_iload_n C dL_law_509 rfl ?_
        refine aj_iconst C dL_law_510 ?_
        refine aj_iadd C dL_law_511 ?_
        obtain ⟨r0, h⟩ := h
        refine lj_sld C ha0 hba0 r0 dL_law_512 ?_
        refine aj_callV (rest := []) C mvL_53 (sX11_cut hq1 h) hq1 (aj_np 1 (by decide +kernel) rfl) (Nat.le_of_ble_eq_true rfl) rfl dL_law_513 (fun r m19 h => ?_)
        obtain ⟨z19, rfl, h⟩ := h
        refine aj_aload_n C dL_law_516 rfl ?_
        refine aj_aload_n C dL_law_517 rfl ?_
        refine aj_iload_n C dL_law_518 rfl ?_
        refine aj_iconst C dL_law_519 ?_
        refine aj_iadd C dL_law_520 ?_
        obtain ⟨r0, h⟩ := h
        refine lj_sld C ha0 hba0 r0 dL_law_521 ?_
        refine aj_callV (rest := [vI z19]) C mvL_56 (sX12_cut hq2 h) hq2 (aj_np 1 (by decide +kernel) rfl) (Nat.le_of_ble_eq_true rfl) rfl dL_law_522 (fun r m20 h => ?_)
        obtain ⟨z20, rfl, h⟩ := h
        obtain ⟨r0, r1, h1, h2⟩ := h
        refine aj_icmp_eq (tgt := 1587) C dL_law_525 (by decide) r0 r1 (fun e => ?_) (fun e => ?_)
        · have h := h1 e
          refine aj_iinc (lv' := [some (vA 10 ba0 a0), some (vO 11 q1), some (vO 12 q2), some (vI (v3 + 6))]) C dL_law_1587 rfl (by decide) rfl ?_
          refine aj_goto (tgt := 18) C dL_law_1590 (by decide) ?_
          exact ih ba0 a0 q1 q2 (v3 + 6) _ ha0 hba0 hq1 hq2 h
        · have h := h2 e
          refine aj_iconst C dL_law_528 ?_
          exact h.elim
      · have h := hc10 e
        refine aj_tin (tgt := 530) (off := 497) C dL_law_33 r0 (by omega) (by omega) (by rw [e]; rfl) (by decide) ?_
        refine aj_aload_n C dL_law_530 rfl ?_
        refine aj_aload_n C dL_law_531 rfl ?_
        refine aj_iload_n C dL_law_532 rfl ?_
        refine aj_iconst C dL_law_533 ?_
        refine aj_iadd C dL_law_534 ?_
        obtain ⟨r0, h⟩ := h
        refine lj_sld C ha0 hba0 r0 dL_law_535 ?_
        refine aj_callV (rest := []) C mvL_57 (sX11_twist hq1 h) hq1 (aj_np 1 (by decide +kernel) rfl) (Nat.le_of_ble_eq_true rfl) rfl dL_law_536 (fun r m21 h => ?_)
        obtain ⟨z21, rfl, h⟩ := h
        refine aj_aload_n C dL_law_539 rfl ?_
        refine aj_aload_n C dL_law_540 rfl ?_
        refine aj_iload_n C dL_law_541 rfl ?_
        refine aj_iconst C dL_law_542 ?_
        refine aj_iadd C dL_law_543 ?_
        obtain ⟨r0, h⟩ := h
        refine lj_sld C ha0 hba0 r0 dL_law_544 ?_
        refine aj_callV (rest := [vI z21]) C mvL_60 (sX12_twist hq2 h) hq2 (aj_np 1 (by decide +kernel) rfl) (Nat.le_of_ble_eq_true rfl) rfl dL_law_545 (fun r m22 h => ?_)
        obtain ⟨z22, rfl, h⟩ := h
        obtain ⟨r0, r1, h1, h2⟩ := h
        refine aj_icmp_eq (tgt := 1587) C dL_law_548 (by decide) r0 r1 (fun e => ?_) (fun e => ?_)
        · have h := h1 e
          refine aj_iinc (lv' := [some (vA 10 ba0 a0), some (vO 11 q1), some (vO 12 q2), some (vI (v3 + 6))]) C dL_law_1587 rfl (by decide) rfl ?_
          refine aj_goto (tgt := 18) C dL_law_1590 (by decide) ?_
          exact ih ba0 a0 q1 q2 (v3 + 6) _ ha0 hba0 hq1 hq2 h
        · have h := h2 e
          refine aj_iconst C dL_law_551 ?_
          exact h.elim
      · have h := hc11 e
        refine aj_tin (tgt := 553) (off := 520) C dL_law_33 r0 (by omega) (by omega) (by rw [e]; rfl) (by decide) ?_
        refine aj_aload_n C dL_law_553 rfl ?_
        refine aj_aload_n C dL_law_554 rfl ?_
        refine aj_iload_n C dL_law_555 rfl ?_
        refine aj_iconst C dL_law_556 ?_
        refine aj_iadd C dL_law_557 ?_
        obtain ⟨r0, h⟩ := h
        refine lj_sld C ha0 hba0 r0 dL_law_558 ?_
        refine aj_callV (rest := []) C mvL_61 (sX11_undo hq1 h) hq1 (aj_np 1 (by decide +kernel) rfl) (Nat.le_of_ble_eq_true rfl) rfl dL_law_559 (fun r m23 h => ?_)
        obtain ⟨z23, rfl, h⟩ := h
        refine aj_aload_n C dL_law_562 rfl ?_
        refine aj_aload_n C dL_law_563 rfl ?_
        refine aj_iload_n C dL_law_564 rfl ?_
        refine aj_iconst C dL_law_565 ?_
        refine aj_iadd C dL_law_566 ?_
        obtain ⟨r0, h⟩ := h
        refine lj_sld C ha0 hba0 r0 dL_law_567 ?_
        refine aj_callV (rest := [vI z23]) C mvL_64 (sX12_undo hq2 h) hq2 (aj_np 1 (by decide +kernel) rfl) (Nat.le_of_ble_eq_true rfl) rfl dL_law_568 (fun r m24 h => ?_)
        obtain ⟨z24, rfl, h⟩ := h
        obtain ⟨r0, r1, h1, h2⟩ := h
        refine aj_icmp_eq (tgt := 1587) C dL_law_571 (by decide) r0 r1 (fun e => ?_) (fun e => ?_)
        · have h := h1 e
          refine aj_iinc (lv' := [some (vA 10 ba0 a0), some (vO 11 q1), some (vO 12 q2), some (vI (v3 + 6))]) C dL_law_1587 rfl (by decide) rfl ?_
          refine aj_goto (tgt := 18) C dL_law_1590 (by decide) ?_
          exact ih ba0 a0 q1 q2 (v3 + 6) _ ha0 hba0 hq1 hq2 h
        · have h := h2 e
          refine aj_iconst C dL_law_574 ?_
          exact h.elim
      · have h := hc12 e
        refine aj_tin (tgt := 576) (off := 543) C dL_law_33 r0 (by omega) (by omega) (by rw [e]; rfl) (by decide) ?_
        refine aj_aload_n C dL_law_576 rfl ?_
        refine aj_aload_n C dL_law_577 rfl ?_
        refine aj_iload_n C dL_law_578 rfl ?_
        refine aj_iconst C dL_law_579 ?_
        refine aj_iadd C dL_law_580 ?_
        obtain ⟨r0, h⟩ := h
        refine lj_sld C ha0 hba0 r0 dL_law_581 ?_
        refine aj_aload_n C dL_law_582 rfl ?_
        refine aj_iload_n C dL_law_583 rfl ?_
        refine aj_iconst C dL_law_584 ?_
        refine aj_iadd C dL_law_585 ?_
        obtain ⟨r0, h⟩ := h
        refine lj_sld C ha0 hba0 r0 dL_law_586 ?_
        refine aj_callV (rest := []) C mvL_65 (sX11_judge hq1 h) hq1 (aj_np 2 (by decide +kernel) rfl) (Nat.le_of_ble_eq_true rfl) rfl dL_law_587 (fun r m25 h => ?_)
        obtain ⟨z25, rfl, h⟩ := h
        refine aj_aload_n C dL_law_590 rfl ?_
        refine aj_aload_n C dL_law_591 rfl ?_
        refine aj_iload_n C dL_law_592 rfl ?_
        refine aj_iconst C dL_law_593 ?_
        refine aj_iadd C dL_law_594 ?_
        obtain ⟨r0, h⟩ := h
        refine lj_sld C ha0 hba0 r0 dL_law_595 ?_
        refine aj_aload_n C dL_law_596 rfl ?_
        refine aj_iload_n C dL_law_597 rfl ?_
        refine aj_iconst C dL_law_598 ?_
        refine aj_iadd C dL_law_599 ?_
        obtain ⟨r0, h⟩ := h
        refine lj_sld C ha0 hba0 r0 dL_law_600 ?_
        refine aj_callV (rest := [vI z25]) C mvL_68 (sX12_judge hq2 h) hq2 (aj_np 2 (by decide +kernel) rfl) (Nat.le_of_ble_eq_true rfl) rfl dL_law_601 (fun r m26 h => ?_)
        obtain ⟨z26, rfl, h⟩ := h
        obtain ⟨r0, r1, h1, h2⟩ := h
        refine aj_icmp_eq (tgt := 1587) C dL_law_604 (by decide) r0 r1 (fun e => ?_) (fun e => ?_)
        · have h := h1 e
          refine aj_iinc (lv' := [some (vA 10 ba0 a0), some (vO 11 q1), some (vO 12 q2), some (vI (v3 + 6))]) C dL_law_1587 rfl (by decide) rfl ?_
          refine aj_goto (tgt := 18) C dL_law_1590 (by decide) ?_
          exact ih ba0 a0 q1 q2 (v3 + 6) _ ha0 hba0 hq1 hq2 h
        · have h := h2 e
          refine aj_iconst C dL_law_607 ?_
          exact h.elim
      · have h := hc13 e
        refine aj_tin (tgt := 609) (off := 576) C dL_law_33 r0 (by omega) (by omega) (by rw [e]; rfl) (by decide) ?_
        refine aj_aload_n C dL_law_609 rfl ?_
        refine aj_aload_n C dL_law_610 rfl ?_
        refine aj_iload_n C dL_law_611 rfl ?_
        refine aj_iconst C dL_law_612 ?_
        refine aj_iadd C dL_law_613 ?_
        obtain ⟨r0, h⟩ := h
        refine lj_sld C ha0 hba0 r0 dL_law_614 ?_
        refine aj_callV (rest := []) C mvL_69 (sX11_perform hq1 h) hq1 (aj_np 1 (by decide +kernel) rfl) (Nat.le_of_ble_eq_true rfl) rfl dL_law_615 (fun r m27 h => ?_)
        obtain ⟨z27, rfl, h⟩ := h
        refine aj_aload_n C dL_law_618 rfl ?_
        refine aj_aload_n C dL_law_619 rfl ?_
        refine aj_iload_n C dL_law_620 rfl ?_
        refine aj_iconst C dL_law_621 ?_
        refine aj_iadd C dL_law_622 ?_
        obtain ⟨r0, h⟩ := h
        refine lj_sld C ha0 hba0 r0 dL_law_623 ?_
        refine aj_callV (rest := [vI z27]) C mvL_72 (sX12_perform hq2 h) hq2 (aj_np 1 (by decide +kernel) rfl) (Nat.le_of_ble_eq_true rfl) rfl dL_law_624 (fun r m28 h => ?_)
        obtain ⟨z28, rfl, h⟩ := h
        obtain ⟨r0, r1, h1, h2⟩ := h
        refine aj_icmp_eq (tgt := 1587) C dL_law_627 (by decide) r0 r1 (fun e => ?_) (fun e => ?_)
        · have h := h1 e
          refine aj_iinc (lv' := [some (vA 10 ba0 a0), some (vO 11 q1), some (vO 12 q2), some (vI (v3 + 6))]) C dL_law_1587 rfl (by decide) rfl ?_
          refine aj_goto (tgt := 18) C dL_law_1590 (by decide) ?_
          exact ih ba0 a0 q1 q2 (v3 + 6) _ ha0 hba0 hq1 hq2 h
        · have h := h2 e
          refine aj_iconst C dL_law_630 ?_
          exact h.elim
      · have h := hc14 e
        refine aj_tin (tgt := 632) (off := 599) C dL_law_33 r0 (by omega) (by omega) (by rw [e]; rfl) (by decide) ?_
        refine aj_aload_n C dL_law_632 rfl ?_
        refine aj_aload_n C dL_law_633 rfl ?_
        refine aj_iload_n C dL_law_634 rfl ?_
        refine aj_iconst C dL_law_635 ?_
        refine aj_iadd C dL_law_636 ?_
        obtain ⟨r0, h⟩ := h
        refine lj_sld C ha0 hba0 r0 dL_law_637 ?_
        refine aj_aload_n C dL_law_638 rfl ?_
        refine aj_iload_n C dL_law_639 rfl ?_
        refine aj_iconst C dL_law_640 ?_
        refine aj_iadd C dL_law_641 ?_
        obtain ⟨r0, h⟩ := h
        refine lj_sld C ha0 hba0 r0 dL_law_642 ?_
        refine aj_callV (rest := []) C mvL_73 (sX11_day hq1 h) hq1 (aj_np 2 (by decide +kernel) rfl) (Nat.le_of_ble_eq_true rfl) rfl dL_law_643 (fun r m29 h => ?_)
        obtain ⟨z29, rfl, h⟩ := h
        refine aj_aload_n C dL_law_646 rfl ?_
        refine aj_aload_n C dL_law_647 rfl ?_
        refine aj_iload_n C dL_law_648 rfl ?_
        refine aj_iconst C dL_law_649 ?_
        refine aj_iadd C dL_law_650 ?_
        obtain ⟨r0, h⟩ := h
        refine lj_sld C ha0 hba0 r0 dL_law_651 ?_
        refine aj_aload_n C dL_law_652 rfl ?_
        refine aj_iload_n C dL_law_653 rfl ?_
        refine aj_iconst C dL_law_654 ?_
        refine aj_iadd C dL_law_655 ?_
        obtain ⟨r0, h⟩ := h
        refine lj_sld C ha0 hba0 r0 dL_law_656 ?_
        refine aj_callV (rest := [vI z29]) C mvL_76 (sX12_day hq2 h) hq2 (aj_np 2 (by decide +kernel) rfl) (Nat.le_of_ble_eq_true rfl) rfl dL_law_657 (fun r m30 h => ?_)
        obtain ⟨z30, rfl, h⟩ := h
        obtain ⟨r0, r1, h1, h2⟩ := h
        refine aj_icmp_eq (tgt := 1587) C dL_law_660 (by decide) r0 r1 (fun e => ?_) (fun e => ?_)
        · have h := h1 e
          refine aj_iinc (lv' := [some (vA 10 ba0 a0), some (vO 11 q1), some (vO 12 q2), some (vI (v3 + 6))]) C dL_law_1587 rfl (by decide) rfl ?_
          refine aj_goto (tgt := 18) C dL_law_1590 (by decide) ?_
          exact ih ba0 a0 q1 q2 (v3 + 6) _ ha0 hba0 hq1 hq2 h
        · have h := h2 e
          refine aj_iconst C dL_law_663 ?_
          exact h.elim
      · have h := hc15 e
        refine aj_tin (tgt := 665) (off := 632) C dL_law_33 r0 (by omega) (by omega) (by rw [e]; rfl) (by decide) ?_
        refine aj_aload_n C dL_law_665 rfl ?_
        refine aj_aload_n C dL_law_666 rfl ?_
        refine aj_iload_n C dL_law_667 rfl ?_
        refine aj_iconst C dL_law_668 ?_
        refine aj_iadd C dL_law_669 ?_
        obtain ⟨r0, h⟩ := h
        refine lj_sld C ha0 hba0 r0 dL_law_670 ?_
        refine aj_aload_n C dL_law_671 rfl ?_
        refine aj_iload_n C dL_law_672 rfl ?_
        refine aj_iconst C dL_law_673 ?_
        refine aj_iadd C dL_law_674 ?_
        obtain ⟨r0, h⟩ := h
        refine lj_sld C ha0 hba0 r0 dL_law_675 ?_
        refine aj_callV (rest := []) C mvL_77 (sX11_joins hq1 h) hq1 (aj_np 2 (by decide +kernel) rfl) (Nat.le_of_ble_eq_true rfl) rfl dL_law_676 (fun r m31 h => ?_)
        obtain ⟨z31, rfl, h⟩ := h
        refine aj_aload_n C dL_law_679 rfl ?_
        refine aj_aload_n C dL_law_680 rfl ?_
        refine aj_iload_n C dL_law_681 rfl ?_
        refine aj_iconst C dL_law_682 ?_
        refine aj_iadd C dL_law_683 ?_
        obtain ⟨r0, h⟩ := h
        refine lj_sld C ha0 hba0 r0 dL_law_684 ?_
        refine aj_aload_n C dL_law_685 rfl ?_
        refine aj_iload_n C dL_law_686 rfl ?_
        refine aj_iconst C dL_law_687 ?_
        refine aj_iadd C dL_law_688 ?_
        obtain ⟨r0, h⟩ := h
        refine lj_sld C ha0 hba0 r0 dL_law_689 ?_
        refine aj_callV (rest := [vI z31]) C mvL_80 (sX12_joins hq2 h) hq2 (aj_np 2 (by decide +kernel) rfl) (Nat.le_of_ble_eq_true rfl) rfl dL_law_690 (fun r m32 h => ?_)
        obtain ⟨z32, rfl, h⟩ := h
        obtain ⟨r0, r1, h1, h2⟩ := h
        refine aj_icmp_eq (tgt := 1587) C dL_law_693 (by decide) r0 r1 (fun e => ?_) (fun e => ?_)
        · have h := h1 e
          refine aj_iinc (lv' := [some (vA 10 ba0 a0), some (vO 11 q1), some (vO 12 q2), some (vI (v3 + 6))]) C dL_law_1587 rfl (by decide) rfl ?_
          refine aj_goto (tgt := 18) C dL_law_1590 (by decide) ?_
          exact ih ba0 a0 q1 q2 (v3 + 6) _ ha0 hba0 hq1 hq2 h
        · have h := h2 e
          refine aj_iconst C dL_law_696 ?_
          exact h.elim
      · have h := hc16 e
        refine aj_tin (tgt := 698) (off := 665) C dL_law_33 r0 (by omega) (by omega) (by rw [e]; rfl) (by decide) ?_
        refine aj_aload_n C dL_law_698 rfl ?_
        refine aj_aload_n C dL_law_699 rfl ?_
        refine aj_iload_n C dL_law_700 rfl ?_
        refine aj_iconst C dL_law_701 ?_
        refine aj_iadd C dL_law_702 ?_
        obtain ⟨r0, h⟩ := h
        refine lj_sld C ha0 hba0 r0 dL_law_703 ?_
        refine aj_callV (rest := []) C mvL_81 (sX11_degree hq1 h) hq1 (aj_np 1 (by decide +kernel) rfl) (Nat.le_of_ble_eq_true rfl) rfl dL_law_704 (fun r m33 h => ?_)
        obtain ⟨z33, rfl, h⟩ := h
        refine aj_aload_n C dL_law_707 rfl ?_
        refine aj_aload_n C dL_law_708 rfl ?_
        refine aj_iload_n C dL_law_709 rfl ?_
        refine aj_iconst C dL_law_710 ?_
        refine aj_iadd C dL_law_711 ?_
        obtain ⟨r0, h⟩ := h
        refine lj_sld C ha0 hba0 r0 dL_law_712 ?_
        refine aj_callV (rest := [vI z33]) C mvL_84 (sX12_degree hq2 h) hq2 (aj_np 1 (by decide +kernel) rfl) (Nat.le_of_ble_eq_true rfl) rfl dL_law_713 (fun r m34 h => ?_)
        obtain ⟨z34, rfl, h⟩ := h
        obtain ⟨r0, r1, h1, h2⟩ := h
        refine aj_icmp_eq (tgt := 1587) C dL_law_716 (by decide) r0 r1 (fun e => ?_) (fun e => ?_)
        · have h := h1 e
          refine aj_iinc (lv' := [some (vA 10 ba0 a0), some (vO 11 q1), some (vO 12 q2), some (vI (v3 + 6))]) C dL_law_1587 rfl (by decide) rfl ?_
          refine aj_goto (tgt := 18) C dL_law_1590 (by decide) ?_
          exact ih ba0 a0 q1 q2 (v3 + 6) _ ha0 hba0 hq1 hq2 h
        · have h := h2 e
          refine aj_iconst C dL_law_719 ?_
          exact h.elim
      · have h := hc17 e
        refine aj_tin (tgt := 721) (off := 688) C dL_law_33 r0 (by omega) (by omega) (by rw [e]; rfl) (by decide) ?_
        refine aj_aload_n C dL_law_721 rfl ?_
        refine aj_aload_n C dL_law_722 rfl ?_
        refine aj_iload_n C dL_law_723 rfl ?_
        refine aj_iconst C dL_law_724 ?_
        refine aj_iadd C dL_law_725 ?_
        obtain ⟨r0, h⟩ := h
        refine lj_sld C ha0 hba0 r0 dL_law_726 ?_
        refine aj_aload_n C dL_law_727 rfl ?_
        refine aj_iload_n C dL_law_728 rfl ?_
        refine aj_iconst C dL_law_729 ?_
        refine aj_iadd C dL_law_730 ?_
        obtain ⟨r0, h⟩ := h
        refine lj_sld C ha0 hba0 r0 dL_law_731 ?_
        refine aj_callV (rest := []) C mvL_85 (sX11_neighbour hq1 h) hq1 (aj_np 2 (by decide +kernel) rfl) (Nat.le_of_ble_eq_true rfl) rfl dL_law_732 (fun r m35 h => ?_)
        obtain ⟨z35, rfl, h⟩ := h
        refine aj_aload_n C dL_law_735 rfl ?_
        refine aj_aload_n C dL_law_736 rfl ?_
        refine aj_iload_n C dL_law_737 rfl ?_
        refine aj_iconst C dL_law_738 ?_
        refine aj_iadd C dL_law_739 ?_
        obtain ⟨r0, h⟩ := h
        refine lj_sld C ha0 hba0 r0 dL_law_740 ?_
        refine aj_aload_n C dL_law_741 rfl ?_
        refine aj_iload_n C dL_law_742 rfl ?_
        refine aj_iconst C dL_law_743 ?_
        refine aj_iadd C dL_law_744 ?_
        obtain ⟨r0, h⟩ := h
        refine lj_sld C ha0 hba0 r0 dL_law_745 ?_
        refine aj_callV (rest := [vI z35]) C mvL_88 (sX12_neighbour hq2 h) hq2 (aj_np 2 (by decide +kernel) rfl) (Nat.le_of_ble_eq_true rfl) rfl dL_law_746 (fun r m36 h => ?_)
        obtain ⟨z36, rfl, h⟩ := h
        obtain ⟨r0, r1, h1, h2⟩ := h
        refine aj_icmp_eq (tgt := 1587) C dL_law_749 (by decide) r0 r1 (fun e => ?_) (fun e => ?_)
        · have h := h1 e
          refine aj_iinc (lv' := [some (vA 10 ba0 a0), some (vO 11 q1), some (vO 12 q2), some (vI (v3 + 6))]) C dL_law_1587 rfl (by decide) rfl ?_
          refine aj_goto (tgt := 18) C dL_law_1590 (by decide) ?_
          exact ih ba0 a0 q1 q2 (v3 + 6) _ ha0 hba0 hq1 hq2 h
        · have h := h2 e
          refine aj_iconst C dL_law_752 ?_
          exact h.elim
      · have h := hc18 e
        refine aj_tin (tgt := 754) (off := 721) C dL_law_33 r0 (by omega) (by omega) (by rw [e]; rfl) (by decide) ?_
        refine aj_aload_n C dL_law_754 rfl ?_
        refine aj_callV (rest := []) C mvL_89 (sX11_regular hq1 h) hq1 (aj_np 0 (by decide +kernel) rfl) (Nat.le_of_ble_eq_true rfl) rfl dL_law_755 (fun r m37 h => ?_)
        obtain ⟨z37, rfl, h⟩ := h
        refine aj_aload_n C dL_law_758 rfl ?_
        refine aj_callV (rest := [vI z37]) C mvL_92 (sX12_regular hq2 h) hq2 (aj_np 0 (by decide +kernel) rfl) (Nat.le_of_ble_eq_true rfl) rfl dL_law_759 (fun r m38 h => ?_)
        obtain ⟨z38, rfl, h⟩ := h
        obtain ⟨r0, r1, h1, h2⟩ := h
        refine aj_icmp_eq (tgt := 1587) C dL_law_762 (by decide) r0 r1 (fun e => ?_) (fun e => ?_)
        · have h := h1 e
          refine aj_iinc (lv' := [some (vA 10 ba0 a0), some (vO 11 q1), some (vO 12 q2), some (vI (v3 + 6))]) C dL_law_1587 rfl (by decide) rfl ?_
          refine aj_goto (tgt := 18) C dL_law_1590 (by decide) ?_
          exact ih ba0 a0 q1 q2 (v3 + 6) _ ha0 hba0 hq1 hq2 h
        · have h := h2 e
          refine aj_iconst C dL_law_765 ?_
          exact h.elim
      · have h := hc19 e
        refine aj_tin (tgt := 767) (off := 734) C dL_law_33 r0 (by omega) (by omega) (by rw [e]; rfl) (by decide) ?_
        refine aj_aload_n C dL_law_767 rfl ?_
        refine aj_callV (rest := []) C mvL_93 (sX11_parts hq1 h) hq1 (aj_np 0 (by decide +kernel) rfl) (Nat.le_of_ble_eq_true rfl) rfl dL_law_768 (fun r m39 h => ?_)
        obtain ⟨z39, rfl, h⟩ := h
        refine aj_aload_n C dL_law_771 rfl ?_
        refine aj_callV (rest := [vI z39]) C mvL_96 (sX12_parts hq2 h) hq2 (aj_np 0 (by decide +kernel) rfl) (Nat.le_of_ble_eq_true rfl) rfl dL_law_772 (fun r m40 h => ?_)
        obtain ⟨z40, rfl, h⟩ := h
        obtain ⟨r0, r1, h1, h2⟩ := h
        refine aj_icmp_eq (tgt := 1587) C dL_law_775 (by decide) r0 r1 (fun e => ?_) (fun e => ?_)
        · have h := h1 e
          refine aj_iinc (lv' := [some (vA 10 ba0 a0), some (vO 11 q1), some (vO 12 q2), some (vI (v3 + 6))]) C dL_law_1587 rfl (by decide) rfl ?_
          refine aj_goto (tgt := 18) C dL_law_1590 (by decide) ?_
          exact ih ba0 a0 q1 q2 (v3 + 6) _ ha0 hba0 hq1 hq2 h
        · have h := h2 e
          refine aj_iconst C dL_law_778 ?_
          exact h.elim
      · have h := hc20 e
        refine aj_tin (tgt := 780) (off := 747) C dL_law_33 r0 (by omega) (by omega) (by rw [e]; rfl) (by decide) ?_
        refine aj_aload_n C dL_law_780 rfl ?_
        refine aj_callV (rest := []) C mvL_97 (sX11_twoColours hq1 h) hq1 (aj_np 0 (by decide +kernel) rfl) (Nat.le_of_ble_eq_true rfl) rfl dL_law_781 (fun r m41 h => ?_)
        obtain ⟨z41, rfl, h⟩ := h
        refine aj_aload_n C dL_law_784 rfl ?_
        refine aj_callV (rest := [vI z41]) C mvL_100 (sX12_twoColours hq2 h) hq2 (aj_np 0 (by decide +kernel) rfl) (Nat.le_of_ble_eq_true rfl) rfl dL_law_785 (fun r m42 h => ?_)
        obtain ⟨z42, rfl, h⟩ := h
        obtain ⟨r0, r1, h1, h2⟩ := h
        refine aj_icmp_eq (tgt := 1587) C dL_law_788 (by decide) r0 r1 (fun e => ?_) (fun e => ?_)
        · have h := h1 e
          refine aj_iinc (lv' := [some (vA 10 ba0 a0), some (vO 11 q1), some (vO 12 q2), some (vI (v3 + 6))]) C dL_law_1587 rfl (by decide) rfl ?_
          refine aj_goto (tgt := 18) C dL_law_1590 (by decide) ?_
          exact ih ba0 a0 q1 q2 (v3 + 6) _ ha0 hba0 hq1 hq2 h
        · have h := h2 e
          refine aj_iconst C dL_law_791 ?_
          exact h.elim
      · have h := hc21 e
        refine aj_tin (tgt := 793) (off := 760) C dL_law_33 r0 (by omega) (by omega) (by rw [e]; rfl) (by decide) ?_
        refine aj_aload_n C dL_law_793 rfl ?_
        refine aj_aload_n C dL_law_794 rfl ?_
        refine aj_iload_n C dL_law_795 rfl ?_
        refine aj_iconst C dL_law_796 ?_
        refine aj_iadd C dL_law_797 ?_
        obtain ⟨r0, h⟩ := h
        refine lj_sld C ha0 hba0 r0 dL_law_798 ?_
        refine aj_aload_n C dL_law_799 rfl ?_
        refine aj_iload_n C dL_law_800 rfl ?_
        refine aj_iconst C dL_law_801 ?_
        refine aj_iadd C dL_law_802 ?_
        obtain ⟨r0, h⟩ := h
        refine lj_sld C ha0 hba0 r0 dL_law_803 ?_
        refine aj_callV (rest := []) C mvL_101 (sX11_far hq1 h) hq1 (aj_np 2 (by decide +kernel) rfl) (Nat.le_of_ble_eq_true rfl) rfl dL_law_804 (fun r m43 h => ?_)
        obtain ⟨z43, rfl, h⟩ := h
        refine aj_aload_n C dL_law_807 rfl ?_
        refine aj_aload_n C dL_law_808 rfl ?_
        refine aj_iload_n C dL_law_809 rfl ?_
        refine aj_iconst C dL_law_810 ?_
        refine aj_iadd C dL_law_811 ?_
        obtain ⟨r0, h⟩ := h
        refine lj_sld C ha0 hba0 r0 dL_law_812 ?_
        refine aj_aload_n C dL_law_813 rfl ?_
        refine aj_iload_n C dL_law_814 rfl ?_
        refine aj_iconst C dL_law_815 ?_
        refine aj_iadd C dL_law_816 ?_
        obtain ⟨r0, h⟩ := h
        refine lj_sld C ha0 hba0 r0 dL_law_817 ?_
        refine aj_callV (rest := [vI z43]) C mvL_104 (sX12_far hq2 h) hq2 (aj_np 2 (by decide +kernel) rfl) (Nat.le_of_ble_eq_true rfl) rfl dL_law_818 (fun r m44 h => ?_)
        obtain ⟨z44, rfl, h⟩ := h
        obtain ⟨r0, r1, h1, h2⟩ := h
        refine aj_icmp_eq (tgt := 1587) C dL_law_821 (by decide) r0 r1 (fun e => ?_) (fun e => ?_)
        · have h := h1 e
          refine aj_iinc (lv' := [some (vA 10 ba0 a0), some (vO 11 q1), some (vO 12 q2), some (vI (v3 + 6))]) C dL_law_1587 rfl (by decide) rfl ?_
          refine aj_goto (tgt := 18) C dL_law_1590 (by decide) ?_
          exact ih ba0 a0 q1 q2 (v3 + 6) _ ha0 hba0 hq1 hq2 h
        · have h := h2 e
          refine aj_iconst C dL_law_824 ?_
          exact h.elim
      · have h := hc22 e
        refine aj_tin (tgt := 826) (off := 793) C dL_law_33 r0 (by omega) (by omega) (by rw [e]; rfl) (by decide) ?_
        refine aj_aload_n C dL_law_826 rfl ?_
        refine aj_callV (rest := []) C mvL_105 (sX11_diameter hq1 h) hq1 (aj_np 0 (by decide +kernel) rfl) (Nat.le_of_ble_eq_true rfl) rfl dL_law_827 (fun r m45 h => ?_)
        obtain ⟨z45, rfl, h⟩ := h
        refine aj_aload_n C dL_law_830 rfl ?_
        refine aj_callV (rest := [vI z45]) C mvL_108 (sX12_diameter hq2 h) hq2 (aj_np 0 (by decide +kernel) rfl) (Nat.le_of_ble_eq_true rfl) rfl dL_law_831 (fun r m46 h => ?_)
        obtain ⟨z46, rfl, h⟩ := h
        obtain ⟨r0, r1, h1, h2⟩ := h
        refine aj_icmp_eq (tgt := 1587) C dL_law_834 (by decide) r0 r1 (fun e => ?_) (fun e => ?_)
        · have h := h1 e
          refine aj_iinc (lv' := [some (vA 10 ba0 a0), some (vO 11 q1), some (vO 12 q2), some (vI (v3 + 6))]) C dL_law_1587 rfl (by decide) rfl ?_
          refine aj_goto (tgt := 18) C dL_law_1590 (by decide) ?_
          exact ih ba0 a0 q1 q2 (v3 + 6) _ ha0 hba0 hq1 hq2 h
        · have h := h2 e
          refine aj_iconst C dL_law_837 ?_
          exact h.elim
      · have h := hc23 e
        refine aj_tin (tgt := 839) (off := 806) C dL_law_33 r0 (by omega) (by omega) (by rw [e]; rfl) (by decide) ?_
        refine aj_aload_n C dL_law_839 rfl ?_
        refine aj_aload_n C dL_law_840 rfl ?_
        refine aj_iload_n C dL_law_841 rfl ?_
        refine aj_iconst C dL_law_842 ?_
        refine aj_iadd C dL_law_843 ?_
        obtain ⟨r0, h⟩ := h
        refine lj_sld C ha0 hba0 r0 dL_law_844 ?_
        refine aj_aload_n C dL_law_845 rfl ?_
        refine aj_iload_n C dL_law_846 rfl ?_
        refine aj_iconst C dL_law_847 ?_
        refine aj_iadd C dL_law_848 ?_
        obtain ⟨r0, h⟩ := h
        refine lj_sld C ha0 hba0 r0 dL_law_849 ?_
        refine aj_callV (rest := []) C mvL_109 (sX11_ball hq1 h) hq1 (aj_np 2 (by decide +kernel) rfl) (Nat.le_of_ble_eq_true rfl) rfl dL_law_850 (fun r m47 h => ?_)
        obtain ⟨z47, rfl, h⟩ := h
        refine aj_aload_n C dL_law_853 rfl ?_
        refine aj_aload_n C dL_law_854 rfl ?_
        refine aj_iload_n C dL_law_855 rfl ?_
        refine aj_iconst C dL_law_856 ?_
        refine aj_iadd C dL_law_857 ?_
        obtain ⟨r0, h⟩ := h
        refine lj_sld C ha0 hba0 r0 dL_law_858 ?_
        refine aj_aload_n C dL_law_859 rfl ?_
        refine aj_iload_n C dL_law_860 rfl ?_
        refine aj_iconst C dL_law_861 ?_
        refine aj_iadd C dL_law_862 ?_
        obtain ⟨r0, h⟩ := h
        refine lj_sld C ha0 hba0 r0 dL_law_863 ?_
        refine aj_callV (rest := [vI z47]) C mvL_112 (sX12_ball hq2 h) hq2 (aj_np 2 (by decide +kernel) rfl) (Nat.le_of_ble_eq_true rfl) rfl dL_law_864 (fun r m48 h => ?_)
        obtain ⟨z48, rfl, h⟩ := h
        obtain ⟨r0, r1, h1, h2⟩ := h
        refine aj_icmp_eq (tgt := 1587) C dL_law_867 (by decide) r0 r1 (fun e => ?_) (fun e => ?_)
        · have h := h1 e
          refine aj_iinc (lv' := [some (vA 10 ba0 a0), some (vO 11 q1), some (vO 12 q2), some (vI (v3 + 6))]) C dL_law_1587 rfl (by decide) rfl ?_
          refine aj_goto (tgt := 18) C dL_law_1590 (by decide) ?_
          exact ih ba0 a0 q1 q2 (v3 + 6) _ ha0 hba0 hq1 hq2 h
        · have h := h2 e
          refine aj_iconst C dL_law_870 ?_
          exact h.elim
      · have h := hc24 e
        refine aj_tin (tgt := 872) (off := 839) C dL_law_33 r0 (by omega) (by omega) (by rw [e]; rfl) (by decide) ?_
        refine aj_aload_n C dL_law_872 rfl ?_
        refine aj_callV (rest := []) C mvL_113 (sX11_girth hq1 h) hq1 (aj_np 0 (by decide +kernel) rfl) (Nat.le_of_ble_eq_true rfl) rfl dL_law_873 (fun r m49 h => ?_)
        obtain ⟨z49, rfl, h⟩ := h
        refine aj_aload_n C dL_law_876 rfl ?_
        refine aj_callV (rest := [vI z49]) C mvL_116 (sX12_girth hq2 h) hq2 (aj_np 0 (by decide +kernel) rfl) (Nat.le_of_ble_eq_true rfl) rfl dL_law_877 (fun r m50 h => ?_)
        obtain ⟨z50, rfl, h⟩ := h
        obtain ⟨r0, r1, h1, h2⟩ := h
        refine aj_icmp_eq (tgt := 1587) C dL_law_880 (by decide) r0 r1 (fun e => ?_) (fun e => ?_)
        · have h := h1 e
          refine aj_iinc (lv' := [some (vA 10 ba0 a0), some (vO 11 q1), some (vO 12 q2), some (vI (v3 + 6))]) C dL_law_1587 rfl (by decide) rfl ?_
          refine aj_goto (tgt := 18) C dL_law_1590 (by decide) ?_
          exact ih ba0 a0 q1 q2 (v3 + 6) _ ha0 hba0 hq1 hq2 h
        · have h := h2 e
          refine aj_iconst C dL_law_883 ?_
          exact h.elim
      · have h := hc25 e
        refine aj_tin (tgt := 885) (off := 852) C dL_law_33 r0 (by omega) (by omega) (by rw [e]; rfl) (by decide) ?_
        refine aj_aload_n C dL_law_885 rfl ?_
        refine aj_aload_n C dL_law_886 rfl ?_
        refine aj_iload_n C dL_law_887 rfl ?_
        refine aj_iconst C dL_law_888 ?_
        refine aj_iadd C dL_law_889 ?_
        obtain ⟨r0, h⟩ := h
        refine lj_sld C ha0 hba0 r0 dL_law_890 ?_
        refine aj_callV (rest := []) C mvL_117 (sX11_ring hq1 h) hq1 (aj_np 1 (by decide +kernel) rfl) (Nat.le_of_ble_eq_true rfl) rfl dL_law_891 (fun r m51 h => ?_)
        obtain ⟨z51, rfl, h⟩ := h
        refine aj_aload_n C dL_law_894 rfl ?_
        refine aj_aload_n C dL_law_895 rfl ?_
        refine aj_iload_n C dL_law_896 rfl ?_
        refine aj_iconst C dL_law_897 ?_
        refine aj_iadd C dL_law_898 ?_
        obtain ⟨r0, h⟩ := h
        refine lj_sld C ha0 hba0 r0 dL_law_899 ?_
        refine aj_callV (rest := [vI z51]) C mvL_120 (sX12_ring hq2 h) hq2 (aj_np 1 (by decide +kernel) rfl) (Nat.le_of_ble_eq_true rfl) rfl dL_law_900 (fun r m52 h => ?_)
        obtain ⟨z52, rfl, h⟩ := h
        obtain ⟨r0, r1, h1, h2⟩ := h
        refine aj_icmp_eq (tgt := 1587) C dL_law_903 (by decide) r0 r1 (fun e => ?_) (fun e => ?_)
        · have h := h1 e
          refine aj_iinc (lv' := [some (vA 10 ba0 a0), some (vO 11 q1), some (vO 12 q2), some (vI (v3 + 6))]) C dL_law_1587 rfl (by decide) rfl ?_
          refine aj_goto (tgt := 18) C dL_law_1590 (by decide) ?_
          exact ih ba0 a0 q1 q2 (v3 + 6) _ ha0 hba0 hq1 hq2 h
        · have h := h2 e
          refine aj_iconst C dL_law_906 ?_
          exact h.elim
      · have h := hc26 e
        refine aj_tin (tgt := 908) (off := 875) C dL_law_33 r0 (by omega) (by omega) (by rw [e]; rfl) (by decide) ?_
        refine aj_aload_n C dL_law_908 rfl ?_
        refine aj_aload_n C dL_law_909 rfl ?_
        refine aj_iload_n C dL_law_910 rfl ?_
        refine aj_iconst C dL_law_911 ?_
        refine aj_iadd C dL_law_912 ?_
        obtain ⟨r0, h⟩ := h
        refine lj_sld C ha0 hba0 r0 dL_law_913 ?_
        refine aj_callV (rest := []) C mvL_121 (sX11_rings hq1 h) hq1 (aj_np 1 (by decide +kernel) rfl) (Nat.le_of_ble_eq_true rfl) rfl dL_law_914 (fun r m53 h => ?_)
        obtain ⟨z53, rfl, h⟩ := h
        refine aj_aload_n C dL_law_917 rfl ?_
        refine aj_aload_n C dL_law_918 rfl ?_
        refine aj_iload_n C dL_law_919 rfl ?_
        refine aj_iconst C dL_law_920 ?_
        refine aj_iadd C dL_law_921 ?_
        obtain ⟨r0, h⟩ := h
        refine lj_sld C ha0 hba0 r0 dL_law_922 ?_
        refine aj_callV (rest := [vI z53]) C mvL_124 (sX12_rings hq2 h) hq2 (aj_np 1 (by decide +kernel) rfl) (Nat.le_of_ble_eq_true rfl) rfl dL_law_923 (fun r m54 h => ?_)
        obtain ⟨z54, rfl, h⟩ := h
        obtain ⟨r0, r1, h1, h2⟩ := h
        refine aj_icmp_eq (tgt := 1587) C dL_law_926 (by decide) r0 r1 (fun e => ?_) (fun e => ?_)
        · have h := h1 e
          refine aj_iinc (lv' := [some (vA 10 ba0 a0), some (vO 11 q1), some (vO 12 q2), some (vI (v3 + 6))]) C dL_law_1587 rfl (by decide) rfl ?_
          refine aj_goto (tgt := 18) C dL_law_1590 (by decide) ?_
          exact ih ba0 a0 q1 q2 (v3 + 6) _ ha0 hba0 hq1 hq2 h
        · have h := h2 e
          refine aj_iconst C dL_law_929 ?_
          exact h.elim
      · have h := hc27 e
        refine aj_tin (tgt := 931) (off := 898) C dL_law_33 r0 (by omega) (by omega) (by rw [e]; rfl) (by decide) ?_
        refine aj_aload_n C dL_law_931 rfl ?_
        refine aj_aload_n C dL_law_932 rfl ?_
        refine aj_iload_n C dL_law_933 rfl ?_
        refine aj_iconst C dL_law_934 ?_
        refine aj_iadd C dL_law_935 ?_
        obtain ⟨r0, h⟩ := h
        refine lj_sld C ha0 hba0 r0 dL_law_936 ?_
        refine aj_callV (rest := []) C mvL_125 (sX11_through hq1 h) hq1 (aj_np 1 (by decide +kernel) rfl) (Nat.le_of_ble_eq_true rfl) rfl dL_law_937 (fun r m55 h => ?_)
        obtain ⟨z55, rfl, h⟩ := h
        refine aj_aload_n C dL_law_940 rfl ?_
        refine aj_aload_n C dL_law_941 rfl ?_
        refine aj_iload_n C dL_law_942 rfl ?_
        refine aj_iconst C dL_law_943 ?_
        refine aj_iadd C dL_law_944 ?_
        obtain ⟨r0, h⟩ := h
        refine lj_sld C ha0 hba0 r0 dL_law_945 ?_
        refine aj_callV (rest := [vI z55]) C mvL_128 (sX12_through hq2 h) hq2 (aj_np 1 (by decide +kernel) rfl) (Nat.le_of_ble_eq_true rfl) rfl dL_law_946 (fun r m56 h => ?_)
        obtain ⟨z56, rfl, h⟩ := h
        obtain ⟨r0, r1, h1, h2⟩ := h
        refine aj_icmp_eq (tgt := 1587) C dL_law_949 (by decide) r0 r1 (fun e => ?_) (fun e => ?_)
        · have h := h1 e
          refine aj_iinc (lv' := [some (vA 10 ba0 a0), some (vO 11 q1), some (vO 12 q2), some (vI (v3 + 6))]) C dL_law_1587 rfl (by decide) rfl ?_
          refine aj_goto (tgt := 18) C dL_law_1590 (by decide) ?_
          exact ih ba0 a0 q1 q2 (v3 + 6) _ ha0 hba0 hq1 hq2 h
        · have h := h2 e
          refine aj_iconst C dL_law_952 ?_
          exact h.elim
      · have h := hc28 e
        refine aj_tin (tgt := 954) (off := 921) C dL_law_33 r0 (by omega) (by omega) (by rw [e]; rfl) (by decide) ?_
        refine aj_aload_n C dL_law_954 rfl ?_
        refine aj_aload_n C dL_law_955 rfl ?_
        refine aj_iload_n C dL_law_956 rfl ?_
        refine aj_iconst C dL_law_957 ?_
        refine aj_iadd C dL_law_958 ?_
        obtain ⟨r0, h⟩ := h
        refine lj_sld C ha0 hba0 r0 dL_law_959 ?_
        refine aj_aload_n C dL_law_960 rfl ?_
        refine aj_iload_n C dL_law_961 rfl ?_
        refine aj_iconst C dL_law_962 ?_
        refine aj_iadd C dL_law_963 ?_
        obtain ⟨r0, h⟩ := h
        refine lj_sld C ha0 hba0 r0 dL_law_964 ?_
        refine aj_callV (rest := []) C mvL_129 (sX11_bound hq1 h) hq1 (aj_np 2 (by decide +kernel) rfl) (Nat.le_of_ble_eq_true rfl) rfl dL_law_965 (fun r m57 h => ?_)
        obtain ⟨z57, rfl, h⟩ := h
        refine aj_aload_n C dL_law_968 rfl ?_
        refine aj_aload_n C dL_law_969 rfl ?_
        refine aj_iload_n C dL_law_970 rfl ?_
        refine aj_iconst C dL_law_971 ?_
        refine aj_iadd C dL_law_972 ?_
        obtain ⟨r0, h⟩ := h
        refine lj_sld C ha0 hba0 r0 dL_law_973 ?_
        refine aj_aload_n C dL_law_974 rfl ?_
        refine aj_iload_n C dL_law_975 rfl ?_
        refine aj_iconst C dL_law_976 ?_
        refine aj_iadd C dL_law_977 ?_
        obtain ⟨r0, h⟩ := h
        refine lj_sld C ha0 hba0 r0 dL_law_978 ?_
        refine aj_callV (rest := [vL z57]) C mvL_133 (sX12_bound hq2 h) hq2 (aj_np 2 (by decide +kernel) rfl) (Nat.le_of_ble_eq_true rfl) rfl dL_law_979 (fun r m58 h => ?_)
        obtain ⟨z58, rfl, h⟩ := h
        obtain ⟨r0, r1, h1, h2⟩ := h
        refine aj_lcmp_eq (tgt := 1587) C dL_law_982 dL_law_983 (by decide) r0 r1 (fun e => ?_) (fun e => ?_)
        · have h := h1 e
          refine aj_iinc (lv' := [some (vA 10 ba0 a0), some (vO 11 q1), some (vO 12 q2), some (vI (v3 + 6))]) C dL_law_1587 rfl (by decide) rfl ?_
          refine aj_goto (tgt := 18) C dL_law_1590 (by decide) ?_
          exact ih ba0 a0 q1 q2 (v3 + 6) _ ha0 hba0 hq1 hq2 h
        · have h := h2 e
          refine aj_iconst C dL_law_986 ?_
          exact h.elim
      · have h := hc29 e
        refine aj_tin (tgt := 988) (off := 955) C dL_law_33 r0 (by omega) (by omega) (by rw [e]; rfl) (by decide) ?_
        refine aj_aload_n C dL_law_988 rfl ?_
        refine aj_callV (rest := []) C mvL_134 (sX11_excess hq1 h) hq1 (aj_np 0 (by decide +kernel) rfl) (Nat.le_of_ble_eq_true rfl) rfl dL_law_989 (fun r m59 h => ?_)
        obtain ⟨z59, rfl, h⟩ := h
        refine aj_aload_n C dL_law_992 rfl ?_
        refine aj_callV (rest := [vL z59]) C mvL_138 (sX12_excess hq2 h) hq2 (aj_np 0 (by decide +kernel) rfl) (Nat.le_of_ble_eq_true rfl) rfl dL_law_993 (fun r m60 h => ?_)
        obtain ⟨z60, rfl, h⟩ := h
        obtain ⟨r0, r1, h1, h2⟩ := h
        refine aj_lcmp_eq (tgt := 1587) C dL_law_996 dL_law_997 (by decide) r0 r1 (fun e => ?_) (fun e => ?_)
        · have h := h1 e
          refine aj_iinc (lv' := [some (vA 10 ba0 a0), some (vO 11 q1), some (vO 12 q2), some (vI (v3 + 6))]) C dL_law_1587 rfl (by decide) rfl ?_
          refine aj_goto (tgt := 18) C dL_law_1590 (by decide) ?_
          exact ih ba0 a0 q1 q2 (v3 + 6) _ ha0 hba0 hq1 hq2 h
        · have h := h2 e
          refine aj_iconst C dL_law_1000 ?_
          exact h.elim
      · have h := hc30 e
        refine aj_tin (tgt := 1002) (off := 969) C dL_law_33 r0 (by omega) (by omega) (by rw [e]; rfl) (by decide) ?_
        refine aj_aload_n C dL_law_1002 rfl ?_
        refine aj_aload_n C dL_law_1003 rfl ?_
        refine aj_iload_n C dL_law_1004 rfl ?_
        refine aj_iconst C dL_law_1005 ?_
        refine aj_iadd C dL_law_1006 ?_
        obtain ⟨r0, h⟩ := h
        refine lj_sld C ha0 hba0 r0 dL_law_1007 ?_
        refine aj_aload_n C dL_law_1008 rfl ?_
        refine aj_iload_n C dL_law_1009 rfl ?_
        refine aj_iconst C dL_law_1010 ?_
        refine aj_iadd C dL_law_1011 ?_
        obtain ⟨r0, h⟩ := h
        refine lj_sld C ha0 hba0 r0 dL_law_1012 ?_
        refine aj_callV (rest := []) C mvL_139 (sX11_light hq1 h) hq1 (aj_np 2 (by decide +kernel) rfl) (Nat.le_of_ble_eq_true rfl) rfl dL_law_1013 (fun r m61 h => ?_)
        obtain ⟨z61, rfl, h⟩ := h
        refine aj_aload_n C dL_law_1016 rfl ?_
        refine aj_aload_n C dL_law_1017 rfl ?_
        refine aj_iload_n C dL_law_1018 rfl ?_
        refine aj_iconst C dL_law_1019 ?_
        refine aj_iadd C dL_law_1020 ?_
        obtain ⟨r0, h⟩ := h
        refine lj_sld C ha0 hba0 r0 dL_law_1021 ?_
        refine aj_aload_n C dL_law_1022 rfl ?_
        refine aj_iload_n C dL_law_1023 rfl ?_
        refine aj_iconst C dL_law_1024 ?_
        refine aj_iadd C dL_law_1025 ?_
        obtain ⟨r0, h⟩ := h
        refine lj_sld C ha0 hba0 r0 dL_law_1026 ?_
        refine aj_callV (rest := [vI z61]) C mvL_142 (sX12_light hq2 h) hq2 (aj_np 2 (by decide +kernel) rfl) (Nat.le_of_ble_eq_true rfl) rfl dL_law_1027 (fun r m62 h => ?_)
        obtain ⟨z62, rfl, h⟩ := h
        obtain ⟨r0, r1, h1, h2⟩ := h
        refine aj_icmp_eq (tgt := 1587) C dL_law_1030 (by decide) r0 r1 (fun e => ?_) (fun e => ?_)
        · have h := h1 e
          refine aj_iinc (lv' := [some (vA 10 ba0 a0), some (vO 11 q1), some (vO 12 q2), some (vI (v3 + 6))]) C dL_law_1587 rfl (by decide) rfl ?_
          refine aj_goto (tgt := 18) C dL_law_1590 (by decide) ?_
          exact ih ba0 a0 q1 q2 (v3 + 6) _ ha0 hba0 hq1 hq2 h
        · have h := h2 e
          refine aj_iconst C dL_law_1033 ?_
          exact h.elim
      · have h := hc31 e
        refine aj_tin (tgt := 1035) (off := 1002) C dL_law_33 r0 (by omega) (by omega) (by rw [e]; rfl) (by decide) ?_
        refine aj_aload_n C dL_law_1035 rfl ?_
        refine aj_callV (rest := []) C mvL_143 (sX11_lightest hq1 h) hq1 (aj_np 0 (by decide +kernel) rfl) (Nat.le_of_ble_eq_true rfl) rfl dL_law_1036 (fun r m63 h => ?_)
        obtain ⟨z63, rfl, h⟩ := h
        refine aj_aload_n C dL_law_1039 rfl ?_
        refine aj_callV (rest := [vI z63]) C mvL_146 (sX12_lightest hq2 h) hq2 (aj_np 0 (by decide +kernel) rfl) (Nat.le_of_ble_eq_true rfl) rfl dL_law_1040 (fun r m64 h => ?_)
        obtain ⟨z64, rfl, h⟩ := h
        obtain ⟨r0, r1, h1, h2⟩ := h
        refine aj_icmp_eq (tgt := 1587) C dL_law_1043 (by decide) r0 r1 (fun e => ?_) (fun e => ?_)
        · have h := h1 e
          refine aj_iinc (lv' := [some (vA 10 ba0 a0), some (vO 11 q1), some (vO 12 q2), some (vI (v3 + 6))]) C dL_law_1587 rfl (by decide) rfl ?_
          refine aj_goto (tgt := 18) C dL_law_1590 (by decide) ?_
          exact ih ba0 a0 q1 q2 (v3 + 6) _ ha0 hba0 hq1 hq2 h
        · have h := h2 e
          refine aj_iconst C dL_law_1046 ?_
          exact h.elim
      · have h := hc32 e
        refine aj_tin (tgt := 1048) (off := 1015) C dL_law_33 r0 (by omega) (by omega) (by rw [e]; rfl) (by decide) ?_
        refine aj_aload_n C dL_law_1048 rfl ?_
        refine aj_aload_n C dL_law_1049 rfl ?_
        refine aj_iload_n C dL_law_1050 rfl ?_
        refine aj_iconst C dL_law_1051 ?_
        refine aj_iadd C dL_law_1052 ?_
        obtain ⟨r0, h⟩ := h
        refine lj_sld C ha0 hba0 r0 dL_law_1053 ?_
        refine aj_callV (rest := []) C mvL_147 (sX11_walk hq1 h) hq1 (aj_np 1 (by decide +kernel) rfl) (Nat.le_of_ble_eq_true rfl) rfl dL_law_1054 (fun r m65 h => ?_)
        obtain ⟨z65, rfl, h⟩ := h
        refine aj_aload_n C dL_law_1057 rfl ?_
        refine aj_aload_n C dL_law_1058 rfl ?_
        refine aj_iload_n C dL_law_1059 rfl ?_
        refine aj_iconst C dL_law_1060 ?_
        refine aj_iadd C dL_law_1061 ?_
        obtain ⟨r0, h⟩ := h
        refine lj_sld C ha0 hba0 r0 dL_law_1062 ?_
        refine aj_callV (rest := [vI z65]) C mvL_150 (sX12_walk hq2 h) hq2 (aj_np 1 (by decide +kernel) rfl) (Nat.le_of_ble_eq_true rfl) rfl dL_law_1063 (fun r m66 h => ?_)
        obtain ⟨z66, rfl, h⟩ := h
        obtain ⟨r0, r1, h1, h2⟩ := h
        refine aj_icmp_eq (tgt := 1587) C dL_law_1066 (by decide) r0 r1 (fun e => ?_) (fun e => ?_)
        · have h := h1 e
          refine aj_iinc (lv' := [some (vA 10 ba0 a0), some (vO 11 q1), some (vO 12 q2), some (vI (v3 + 6))]) C dL_law_1587 rfl (by decide) rfl ?_
          refine aj_goto (tgt := 18) C dL_law_1590 (by decide) ?_
          exact ih ba0 a0 q1 q2 (v3 + 6) _ ha0 hba0 hq1 hq2 h
        · have h := h2 e
          refine aj_iconst C dL_law_1069 ?_
          exact h.elim
      · have h := hc33 e
        refine aj_tin (tgt := 1071) (off := 1038) C dL_law_33 r0 (by omega) (by omega) (by rw [e]; rfl) (by decide) ?_
        refine aj_aload_n C dL_law_1071 rfl ?_
        refine aj_aload_n C dL_law_1072 rfl ?_
        refine aj_iload_n C dL_law_1073 rfl ?_
        refine aj_iconst C dL_law_1074 ?_
        refine aj_iadd C dL_law_1075 ?_
        obtain ⟨r0, h⟩ := h
        refine lj_sld C ha0 hba0 r0 dL_law_1076 ?_
        refine aj_callV (rest := []) C mvL_151 (sX11_lifted hq1 h) hq1 (aj_np 1 (by decide +kernel) rfl) (Nat.le_of_ble_eq_true rfl) rfl dL_law_1077 (fun r m67 h => ?_)
        obtain ⟨z67, rfl, h⟩ := h
        refine aj_aload_n C dL_law_1080 rfl ?_
        refine aj_aload_n C dL_law_1081 rfl ?_
        refine aj_iload_n C dL_law_1082 rfl ?_
        refine aj_iconst C dL_law_1083 ?_
        refine aj_iadd C dL_law_1084 ?_
        obtain ⟨r0, h⟩ := h
        refine lj_sld C ha0 hba0 r0 dL_law_1085 ?_
        refine aj_callV (rest := [vI z67]) C mvL_154 (sX12_lifted hq2 h) hq2 (aj_np 1 (by decide +kernel) rfl) (Nat.le_of_ble_eq_true rfl) rfl dL_law_1086 (fun r m68 h => ?_)
        obtain ⟨z68, rfl, h⟩ := h
        obtain ⟨r0, r1, h1, h2⟩ := h
        refine aj_icmp_eq (tgt := 1587) C dL_law_1089 (by decide) r0 r1 (fun e => ?_) (fun e => ?_)
        · have h := h1 e
          refine aj_iinc (lv' := [some (vA 10 ba0 a0), some (vO 11 q1), some (vO 12 q2), some (vI (v3 + 6))]) C dL_law_1587 rfl (by decide) rfl ?_
          refine aj_goto (tgt := 18) C dL_law_1590 (by decide) ?_
          exact ih ba0 a0 q1 q2 (v3 + 6) _ ha0 hba0 hq1 hq2 h
        · have h := h2 e
          refine aj_iconst C dL_law_1092 ?_
          exact h.elim
      · have h := hc34 e
        refine aj_tin (tgt := 1094) (off := 1061) C dL_law_33 r0 (by omega) (by omega) (by rw [e]; rfl) (by decide) ?_
        refine aj_aload_n C dL_law_1094 rfl ?_
        refine aj_aload_n C dL_law_1095 rfl ?_
        refine aj_iload_n C dL_law_1096 rfl ?_
        refine aj_iconst C dL_law_1097 ?_
        refine aj_iadd C dL_law_1098 ?_
        obtain ⟨r0, h⟩ := h
        refine lj_sld C ha0 hba0 r0 dL_law_1099 ?_
        refine aj_callV (rest := []) C mvL_155 (sX11_tune hq1 h) hq1 (aj_np 1 (by decide +kernel) rfl) (Nat.le_of_ble_eq_true rfl) rfl dL_law_1100 (fun r m69 h => ?_)
        obtain ⟨z69, rfl, h⟩ := h
        refine aj_aload_n C dL_law_1103 rfl ?_
        refine aj_aload_n C dL_law_1104 rfl ?_
        refine aj_iload_n C dL_law_1105 rfl ?_
        refine aj_iconst C dL_law_1106 ?_
        refine aj_iadd C dL_law_1107 ?_
        obtain ⟨r0, h⟩ := h
        refine lj_sld C ha0 hba0 r0 dL_law_1108 ?_
        refine aj_callV (rest := [vI z69]) C mvL_158 (sX12_tune hq2 h) hq2 (aj_np 1 (by decide +kernel) rfl) (Nat.le_of_ble_eq_true rfl) rfl dL_law_1109 (fun r m70 h => ?_)
        obtain ⟨z70, rfl, h⟩ := h
        obtain ⟨r0, r1, h1, h2⟩ := h
        refine aj_icmp_eq (tgt := 1587) C dL_law_1112 (by decide) r0 r1 (fun e => ?_) (fun e => ?_)
        · have h := h1 e
          refine aj_iinc (lv' := [some (vA 10 ba0 a0), some (vO 11 q1), some (vO 12 q2), some (vI (v3 + 6))]) C dL_law_1587 rfl (by decide) rfl ?_
          refine aj_goto (tgt := 18) C dL_law_1590 (by decide) ?_
          exact ih ba0 a0 q1 q2 (v3 + 6) _ ha0 hba0 hq1 hq2 h
        · have h := h2 e
          refine aj_iconst C dL_law_1115 ?_
          exact h.elim
      · have h := hc35 e
        refine aj_tin (tgt := 1117) (off := 1084) C dL_law_33 r0 (by omega) (by omega) (by rw [e]; rfl) (by decide) ?_
        refine aj_aload_n C dL_law_1117 rfl ?_
        refine aj_aload_n C dL_law_1118 rfl ?_
        refine aj_iload_n C dL_law_1119 rfl ?_
        refine aj_iconst C dL_law_1120 ?_
        refine aj_iadd C dL_law_1121 ?_
        obtain ⟨r0, h⟩ := h
        refine lj_sld C ha0 hba0 r0 dL_law_1122 ?_
        refine aj_callV (rest := []) C mvL_159 (sX11_tuned hq1 h) hq1 (aj_np 1 (by decide +kernel) rfl) (Nat.le_of_ble_eq_true rfl) rfl dL_law_1123 (fun r m71 h => ?_)
        obtain ⟨z71, rfl, h⟩ := h
        refine aj_aload_n C dL_law_1126 rfl ?_
        refine aj_aload_n C dL_law_1127 rfl ?_
        refine aj_iload_n C dL_law_1128 rfl ?_
        refine aj_iconst C dL_law_1129 ?_
        refine aj_iadd C dL_law_1130 ?_
        obtain ⟨r0, h⟩ := h
        refine lj_sld C ha0 hba0 r0 dL_law_1131 ?_
        refine aj_callV (rest := [vI z71]) C mvL_162 (sX12_tuned hq2 h) hq2 (aj_np 1 (by decide +kernel) rfl) (Nat.le_of_ble_eq_true rfl) rfl dL_law_1132 (fun r m72 h => ?_)
        obtain ⟨z72, rfl, h⟩ := h
        obtain ⟨r0, r1, h1, h2⟩ := h
        refine aj_icmp_eq (tgt := 1587) C dL_law_1135 (by decide) r0 r1 (fun e => ?_) (fun e => ?_)
        · have h := h1 e
          refine aj_iinc (lv' := [some (vA 10 ba0 a0), some (vO 11 q1), some (vO 12 q2), some (vI (v3 + 6))]) C dL_law_1587 rfl (by decide) rfl ?_
          refine aj_goto (tgt := 18) C dL_law_1590 (by decide) ?_
          exact ih ba0 a0 q1 q2 (v3 + 6) _ ha0 hba0 hq1 hq2 h
        · have h := h2 e
          refine aj_iconst C dL_law_1138 ?_
          exact h.elim
      · have h := hc36 e
        refine aj_tin (tgt := 1140) (off := 1107) C dL_law_33 r0 (by omega) (by omega) (by rw [e]; rfl) (by decide) ?_
        refine aj_aload_n C dL_law_1140 rfl ?_
        refine aj_aload_n C dL_law_1141 rfl ?_
        refine aj_iload_n C dL_law_1142 rfl ?_
        refine aj_iconst C dL_law_1143 ?_
        refine aj_iadd C dL_law_1144 ?_
        obtain ⟨r0, h⟩ := h
        refine lj_sld C ha0 hba0 r0 dL_law_1145 ?_
        refine aj_aload_n C dL_law_1146 rfl ?_
        refine aj_iload_n C dL_law_1147 rfl ?_
        refine aj_iconst C dL_law_1148 ?_
        refine aj_iadd C dL_law_1149 ?_
        obtain ⟨r0, h⟩ := h
        refine lj_sld C ha0 hba0 r0 dL_law_1150 ?_
        refine aj_aload_n C dL_law_1151 rfl ?_
        refine aj_iload_n C dL_law_1152 rfl ?_
        refine aj_iconst C dL_law_1153 ?_
        refine aj_iadd C dL_law_1154 ?_
        obtain ⟨r0, h⟩ := h
        refine lj_sld C ha0 hba0 r0 dL_law_1155 ?_
        refine aj_aload_n C dL_law_1156 rfl ?_
        refine aj_iload_n C dL_law_1157 rfl ?_
        refine aj_iconst C dL_law_1158 ?_
        refine aj_iadd C dL_law_1159 ?_
        obtain ⟨r0, h⟩ := h
        refine lj_sld C ha0 hba0 r0 dL_law_1160 ?_
        refine aj_callV (rest := []) C mvL_163 (sX11_search hq1 h) hq1 (aj_np 4 (by decide +kernel) rfl) (Nat.le_of_ble_eq_true rfl) rfl dL_law_1161 (fun r m73 h => ?_)
        obtain ⟨z73, rfl, h⟩ := h
        refine aj_aload_n C dL_law_1164 rfl ?_
        refine aj_aload_n C dL_law_1165 rfl ?_
        refine aj_iload_n C dL_law_1166 rfl ?_
        refine aj_iconst C dL_law_1167 ?_
        refine aj_iadd C dL_law_1168 ?_
        obtain ⟨r0, h⟩ := h
        refine lj_sld C ha0 hba0 r0 dL_law_1169 ?_
        refine aj_aload_n C dL_law_1170 rfl ?_
        refine aj_iload_n C dL_law_1171 rfl ?_
        refine aj_iconst C dL_law_1172 ?_
        refine aj_iadd C dL_law_1173 ?_
        obtain ⟨r0, h⟩ := h
        refine lj_sld C ha0 hba0 r0 dL_law_1174 ?_
        refine aj_aload_n C dL_law_1175 rfl ?_
        refine aj_iload_n C dL_law_1176 rfl ?_
        refine aj_iconst C dL_law_1177 ?_
        refine aj_iadd C dL_law_1178 ?_
        obtain ⟨r0, h⟩ := h
        refine lj_sld C ha0 hba0 r0 dL_law_1179 ?_
        refine aj_aload_n C dL_law_1180 rfl ?_
        refine aj_iload_n C dL_law_1181 rfl ?_
        refine aj_iconst C dL_law_1182 ?_
        refine aj_iadd C dL_law_1183 ?_
        obtain ⟨r0, h⟩ := h
        refine lj_sld C ha0 hba0 r0 dL_law_1184 ?_
        refine aj_callV (rest := [vI z73]) C mvL_167 (sX12_search hq2 h) hq2 (aj_np 4 (by decide +kernel) rfl) (Nat.le_of_ble_eq_true rfl) rfl dL_law_1185 (fun r m74 h => ?_)
        obtain ⟨z74, rfl, h⟩ := h
        obtain ⟨r0, r1, h1, h2⟩ := h
        refine aj_icmp_eq (tgt := 1587) C dL_law_1188 (by decide) r0 r1 (fun e => ?_) (fun e => ?_)
        · have h := h1 e
          refine aj_iinc (lv' := [some (vA 10 ba0 a0), some (vO 11 q1), some (vO 12 q2), some (vI (v3 + 6))]) C dL_law_1587 rfl (by decide) rfl ?_
          refine aj_goto (tgt := 18) C dL_law_1590 (by decide) ?_
          exact ih ba0 a0 q1 q2 (v3 + 6) _ ha0 hba0 hq1 hq2 h
        · have h := h2 e
          refine aj_iconst C dL_law_1191 ?_
          exact h.elim
      · have h := hc37 e
        refine aj_tin (tgt := 1193) (off := 1160) C dL_law_33 r0 (by omega) (by omega) (by rw [e]; rfl) (by decide) ?_
        refine aj_aload_n C dL_law_1193 rfl ?_
        refine aj_aload_n C dL_law_1194 rfl ?_
        refine aj_iload_n C dL_law_1195 rfl ?_
        refine aj_iconst C dL_law_1196 ?_
        refine aj_iadd C dL_law_1197 ?_
        obtain ⟨r0, h⟩ := h
        refine lj_sld C ha0 hba0 r0 dL_law_1198 ?_
        refine aj_aload_n C dL_law_1199 rfl ?_
        refine aj_iload_n C dL_law_1200 rfl ?_
        refine aj_iconst C dL_law_1201 ?_
        refine aj_iadd C dL_law_1202 ?_
        obtain ⟨r0, h⟩ := h
        refine lj_sld C ha0 hba0 r0 dL_law_1203 ?_
        refine aj_aload_n C dL_law_1204 rfl ?_
        refine aj_iload_n C dL_law_1205 rfl ?_
        refine aj_iconst C dL_law_1206 ?_
        refine aj_iadd C dL_law_1207 ?_
        obtain ⟨r0, h⟩ := h
        refine lj_sld C ha0 hba0 r0 dL_law_1208 ?_
        refine aj_aload_n C dL_law_1209 rfl ?_
        refine aj_iload_n C dL_law_1210 rfl ?_
        refine aj_iconst C dL_law_1211 ?_
        refine aj_iadd C dL_law_1212 ?_
        obtain ⟨r0, h⟩ := h
        refine lj_sld C ha0 hba0 r0 dL_law_1213 ?_
        refine aj_aload_n C dL_law_1214 rfl ?_
        refine aj_iload_n C dL_law_1215 rfl ?_
        refine aj_iconst C dL_law_1216 ?_
        refine aj_iadd C dL_law_1217 ?_
        obtain ⟨r0, h⟩ := h
        refine lj_sld C ha0 hba0 r0 dL_law_1218 ?_
        refine aj_callV (rest := []) C mvL_168 (sX11_found hq1 h) hq1 (aj_np 5 (by decide +kernel) rfl) (Nat.le_of_ble_eq_true rfl) rfl dL_law_1219 (fun r m75 h => ?_)
        obtain ⟨z75, rfl, h⟩ := h
        refine aj_aload_n C dL_law_1222 rfl ?_
        refine aj_aload_n C dL_law_1223 rfl ?_
        refine aj_iload_n C dL_law_1224 rfl ?_
        refine aj_iconst C dL_law_1225 ?_
        refine aj_iadd C dL_law_1226 ?_
        obtain ⟨r0, h⟩ := h
        refine lj_sld C ha0 hba0 r0 dL_law_1227 ?_
        refine aj_aload_n C dL_law_1228 rfl ?_
        refine aj_iload_n C dL_law_1229 rfl ?_
        refine aj_iconst C dL_law_1230 ?_
        refine aj_iadd C dL_law_1231 ?_
        obtain ⟨r0, h⟩ := h
        refine lj_sld C ha0 hba0 r0 dL_law_1232 ?_
        refine aj_aload_n C dL_law_1233 rfl ?_
        refine aj_iload_n C dL_law_1234 rfl ?_
        refine aj_iconst C dL_law_1235 ?_
        refine aj_iadd C dL_law_1236 ?_
        obtain ⟨r0, h⟩ := h
        refine lj_sld C ha0 hba0 r0 dL_law_1237 ?_
        refine aj_aload_n C dL_law_1238 rfl ?_
        refine aj_iload_n C dL_law_1239 rfl ?_
        refine aj_iconst C dL_law_1240 ?_
        refine aj_iadd C dL_law_1241 ?_
        obtain ⟨r0, h⟩ := h
        refine lj_sld C ha0 hba0 r0 dL_law_1242 ?_
        refine aj_aload_n C dL_law_1243 rfl ?_
        refine aj_iload_n C dL_law_1244 rfl ?_
        refine aj_iconst C dL_law_1245 ?_
        refine aj_iadd C dL_law_1246 ?_
        obtain ⟨r0, h⟩ := h
        refine lj_sld C ha0 hba0 r0 dL_law_1247 ?_
        refine aj_callV (rest := [vI z75]) C mvL_171 (sX12_found hq2 h) hq2 (aj_np 5 (by decide +kernel) rfl) (Nat.le_of_ble_eq_true rfl) rfl dL_law_1248 (fun r m76 h => ?_)
        obtain ⟨z76, rfl, h⟩ := h
        obtain ⟨r0, r1, h1, h2⟩ := h
        refine aj_icmp_eq (tgt := 1587) C dL_law_1251 (by decide) r0 r1 (fun e => ?_) (fun e => ?_)
        · have h := h1 e
          refine aj_iinc (lv' := [some (vA 10 ba0 a0), some (vO 11 q1), some (vO 12 q2), some (vI (v3 + 6))]) C dL_law_1587 rfl (by decide) rfl ?_
          refine aj_goto (tgt := 18) C dL_law_1590 (by decide) ?_
          exact ih ba0 a0 q1 q2 (v3 + 6) _ ha0 hba0 hq1 hq2 h
        · have h := h2 e
          refine aj_iconst C dL_law_1254 ?_
          exact h.elim
      · have h := hc38 e
        refine aj_tin (tgt := 1256) (off := 1223) C dL_law_33 r0 (by omega) (by omega) (by rw [e]; rfl) (by decide) ?_
        refine aj_aload_n C dL_law_1256 rfl ?_
        refine aj_aload_n C dL_law_1257 rfl ?_
        refine aj_iload_n C dL_law_1258 rfl ?_
        refine aj_iconst C dL_law_1259 ?_
        refine aj_iadd C dL_law_1260 ?_
        obtain ⟨r0, h⟩ := h
        refine lj_sld C ha0 hba0 r0 dL_law_1261 ?_
        refine aj_callV (rest := []) C mvL_172 (sX11_twists hq1 h) hq1 (aj_np 1 (by decide +kernel) rfl) (Nat.le_of_ble_eq_true rfl) rfl dL_law_1262 (fun r m77 h => ?_)
        obtain ⟨z77, rfl, h⟩ := h
        refine aj_aload_n C dL_law_1265 rfl ?_
        refine aj_aload_n C dL_law_1266 rfl ?_
        refine aj_iload_n C dL_law_1267 rfl ?_
        refine aj_iconst C dL_law_1268 ?_
        refine aj_iadd C dL_law_1269 ?_
        obtain ⟨r0, h⟩ := h
        refine lj_sld C ha0 hba0 r0 dL_law_1270 ?_
        refine aj_callV (rest := [vI z77]) C mvL_175 (sX12_twists hq2 h) hq2 (aj_np 1 (by decide +kernel) rfl) (Nat.le_of_ble_eq_true rfl) rfl dL_law_1271 (fun r m78 h => ?_)
        obtain ⟨z78, rfl, h⟩ := h
        obtain ⟨r0, r1, h1, h2⟩ := h
        refine aj_icmp_eq (tgt := 1587) C dL_law_1274 (by decide) r0 r1 (fun e => ?_) (fun e => ?_)
        · have h := h1 e
          refine aj_iinc (lv' := [some (vA 10 ba0 a0), some (vO 11 q1), some (vO 12 q2), some (vI (v3 + 6))]) C dL_law_1587 rfl (by decide) rfl ?_
          refine aj_goto (tgt := 18) C dL_law_1590 (by decide) ?_
          exact ih ba0 a0 q1 q2 (v3 + 6) _ ha0 hba0 hq1 hq2 h
        · have h := h2 e
          refine aj_iconst C dL_law_1277 ?_
          exact h.elim
      · have h := hc39 e
        refine aj_tin (tgt := 1279) (off := 1246) C dL_law_33 r0 (by omega) (by omega) (by rw [e]; rfl) (by decide) ?_
        refine aj_aload_n C dL_law_1279 rfl ?_
        refine aj_aload_n C dL_law_1280 rfl ?_
        refine aj_iload_n C dL_law_1281 rfl ?_
        refine aj_iconst C dL_law_1282 ?_
        refine aj_iadd C dL_law_1283 ?_
        obtain ⟨r0, h⟩ := h
        refine lj_sld C ha0 hba0 r0 dL_law_1284 ?_
        refine aj_callV (rest := []) C mvL_176 (sX11_weigh hq1 h) hq1 (aj_np 1 (by decide +kernel) rfl) (Nat.le_of_ble_eq_true rfl) rfl dL_law_1285 (fun r m79 h => ?_)
        obtain ⟨z79, rfl, h⟩ := h
        refine aj_aload_n C dL_law_1288 rfl ?_
        refine aj_aload_n C dL_law_1289 rfl ?_
        refine aj_iload_n C dL_law_1290 rfl ?_
        refine aj_iconst C dL_law_1291 ?_
        refine aj_iadd C dL_law_1292 ?_
        obtain ⟨r0, h⟩ := h
        refine lj_sld C ha0 hba0 r0 dL_law_1293 ?_
        refine aj_callV (rest := [vI z79]) C mvL_179 (sX12_weigh hq2 h) hq2 (aj_np 1 (by decide +kernel) rfl) (Nat.le_of_ble_eq_true rfl) rfl dL_law_1294 (fun r m80 h => ?_)
        obtain ⟨z80, rfl, h⟩ := h
        obtain ⟨r0, r1, h1, h2⟩ := h
        refine aj_icmp_eq (tgt := 1587) C dL_law_1297 (by decide) r0 r1 (fun e => ?_) (fun e => ?_)
        · have h := h1 e
          refine aj_iinc (lv' := [some (vA 10 ba0 a0), some (vO 11 q1), some (vO 12 q2), some (vI (v3 + 6))]) C dL_law_1587 rfl (by decide) rfl ?_
          refine aj_goto (tgt := 18) C dL_law_1590 (by decide) ?_
          exact ih ba0 a0 q1 q2 (v3 + 6) _ ha0 hba0 hq1 hq2 h
        · have h := h2 e
          refine aj_iconst C dL_law_1300 ?_
          exact h.elim
      · have h := hc40 e
        refine aj_tin (tgt := 1302) (off := 1269) C dL_law_33 r0 (by omega) (by omega) (by rw [e]; rfl) (by decide) ?_
        refine aj_aload_n C dL_law_1302 rfl ?_
        refine aj_aload_n C dL_law_1303 rfl ?_
        refine aj_iload_n C dL_law_1304 rfl ?_
        refine aj_iconst C dL_law_1305 ?_
        refine aj_iadd C dL_law_1306 ?_
        obtain ⟨r0, h⟩ := h
        refine lj_sld C ha0 hba0 r0 dL_law_1307 ?_
        refine aj_aload_n C dL_law_1308 rfl ?_
        refine aj_iload_n C dL_law_1309 rfl ?_
        refine aj_iconst C dL_law_1310 ?_
        refine aj_iadd C dL_law_1311 ?_
        obtain ⟨r0, h⟩ := h
        refine lj_sld C ha0 hba0 r0 dL_law_1312 ?_
        refine aj_aload_n C dL_law_1313 rfl ?_
        refine aj_iload_n C dL_law_1314 rfl ?_
        refine aj_iconst C dL_law_1315 ?_
        refine aj_iadd C dL_law_1316 ?_
        obtain ⟨r0, h⟩ := h
        refine lj_sld C ha0 hba0 r0 dL_law_1317 ?_
        refine aj_callV (rest := []) C mvL_180 (sX11_chance hq1 h) hq1 (aj_np 3 (by decide +kernel) rfl) (Nat.le_of_ble_eq_true rfl) rfl dL_law_1318 (fun r m81 h => ?_)
        obtain ⟨z81, rfl, h⟩ := h
        refine aj_aload_n C dL_law_1321 rfl ?_
        refine aj_aload_n C dL_law_1322 rfl ?_
        refine aj_iload_n C dL_law_1323 rfl ?_
        refine aj_iconst C dL_law_1324 ?_
        refine aj_iadd C dL_law_1325 ?_
        obtain ⟨r0, h⟩ := h
        refine lj_sld C ha0 hba0 r0 dL_law_1326 ?_
        refine aj_aload_n C dL_law_1327 rfl ?_
        refine aj_iload_n C dL_law_1328 rfl ?_
        refine aj_iconst C dL_law_1329 ?_
        refine aj_iadd C dL_law_1330 ?_
        obtain ⟨r0, h⟩ := h
        refine lj_sld C ha0 hba0 r0 dL_law_1331 ?_
        refine aj_aload_n C dL_law_1332 rfl ?_
        refine aj_iload_n C dL_law_1333 rfl ?_
        refine aj_iconst C dL_law_1334 ?_
        refine aj_iadd C dL_law_1335 ?_
        obtain ⟨r0, h⟩ := h
        refine lj_sld C ha0 hba0 r0 dL_law_1336 ?_
        refine aj_callV (rest := [vI z81]) C mvL_184 (sX12_chance hq2 h) hq2 (aj_np 3 (by decide +kernel) rfl) (Nat.le_of_ble_eq_true rfl) rfl dL_law_1337 (fun r m82 h => ?_)
        obtain ⟨z82, rfl, h⟩ := h
        obtain ⟨r0, r1, h1, h2⟩ := h
        refine aj_icmp_eq (tgt := 1587) C dL_law_1340 (by decide) r0 r1 (fun e => ?_) (fun e => ?_)
        · have h := h1 e
          refine aj_iinc (lv' := [some (vA 10 ba0 a0), some (vO 11 q1), some (vO 12 q2), some (vI (v3 + 6))]) C dL_law_1587 rfl (by decide) rfl ?_
          refine aj_goto (tgt := 18) C dL_law_1590 (by decide) ?_
          exact ih ba0 a0 q1 q2 (v3 + 6) _ ha0 hba0 hq1 hq2 h
        · have h := h2 e
          refine aj_iconst C dL_law_1343 ?_
          exact h.elim
      · have h := hc41 e
        refine aj_tin (tgt := 1345) (off := 1312) C dL_law_33 r0 (by omega) (by omega) (by rw [e]; rfl) (by decide) ?_
        refine aj_aload_n C dL_law_1345 rfl ?_
        refine aj_aload_n C dL_law_1346 rfl ?_
        refine aj_iload_n C dL_law_1347 rfl ?_
        refine aj_iconst C dL_law_1348 ?_
        refine aj_iadd C dL_law_1349 ?_
        obtain ⟨r0, h⟩ := h
        refine lj_sld C ha0 hba0 r0 dL_law_1350 ?_
        refine aj_aload_n C dL_law_1351 rfl ?_
        refine aj_iload_n C dL_law_1352 rfl ?_
        refine aj_iconst C dL_law_1353 ?_
        refine aj_iadd C dL_law_1354 ?_
        obtain ⟨r0, h⟩ := h
        refine lj_sld C ha0 hba0 r0 dL_law_1355 ?_
        refine aj_callV (rest := []) C mvL_185 (sX11_mean hq1 h) hq1 (aj_np 2 (by decide +kernel) rfl) (Nat.le_of_ble_eq_true rfl) rfl dL_law_1356 (fun r m83 h => ?_)
        obtain ⟨z83, rfl, h⟩ := h
        refine aj_aload_n C dL_law_1359 rfl ?_
        refine aj_aload_n C dL_law_1360 rfl ?_
        refine aj_iload_n C dL_law_1361 rfl ?_
        refine aj_iconst C dL_law_1362 ?_
        refine aj_iadd C dL_law_1363 ?_
        obtain ⟨r0, h⟩ := h
        refine lj_sld C ha0 hba0 r0 dL_law_1364 ?_
        refine aj_aload_n C dL_law_1365 rfl ?_
        refine aj_iload_n C dL_law_1366 rfl ?_
        refine aj_iconst C dL_law_1367 ?_
        refine aj_iadd C dL_law_1368 ?_
        obtain ⟨r0, h⟩ := h
        refine lj_sld C ha0 hba0 r0 dL_law_1369 ?_
        refine aj_callV (rest := [vI z83]) C mvL_188 (sX12_mean hq2 h) hq2 (aj_np 2 (by decide +kernel) rfl) (Nat.le_of_ble_eq_true rfl) rfl dL_law_1370 (fun r m84 h => ?_)
        obtain ⟨z84, rfl, h⟩ := h
        obtain ⟨r0, r1, h1, h2⟩ := h
        refine aj_icmp_eq (tgt := 1587) C dL_law_1373 (by decide) r0 r1 (fun e => ?_) (fun e => ?_)
        · have h := h1 e
          refine aj_iinc (lv' := [some (vA 10 ba0 a0), some (vO 11 q1), some (vO 12 q2), some (vI (v3 + 6))]) C dL_law_1587 rfl (by decide) rfl ?_
          refine aj_goto (tgt := 18) C dL_law_1590 (by decide) ?_
          exact ih ba0 a0 q1 q2 (v3 + 6) _ ha0 hba0 hq1 hq2 h
        · have h := h2 e
          refine aj_iconst C dL_law_1376 ?_
          exact h.elim
      · have h := hc42 e
        refine aj_tin (tgt := 1378) (off := 1345) C dL_law_33 r0 (by omega) (by omega) (by rw [e]; rfl) (by decide) ?_
        refine aj_aload_n C dL_law_1378 rfl ?_
        refine aj_aload_n C dL_law_1379 rfl ?_
        refine aj_iload_n C dL_law_1380 rfl ?_
        refine aj_iconst C dL_law_1381 ?_
        refine aj_iadd C dL_law_1382 ?_
        obtain ⟨r0, h⟩ := h
        refine lj_sld C ha0 hba0 r0 dL_law_1383 ?_
        refine aj_aload_n C dL_law_1384 rfl ?_
        refine aj_iload_n C dL_law_1385 rfl ?_
        refine aj_iconst C dL_law_1386 ?_
        refine aj_iadd C dL_law_1387 ?_
        obtain ⟨r0, h⟩ := h
        refine lj_sld C ha0 hba0 r0 dL_law_1388 ?_
        refine aj_aload_n C dL_law_1389 rfl ?_
        refine aj_iload_n C dL_law_1390 rfl ?_
        refine aj_iconst C dL_law_1391 ?_
        refine aj_iadd C dL_law_1392 ?_
        obtain ⟨r0, h⟩ := h
        refine lj_sld C ha0 hba0 r0 dL_law_1393 ?_
        refine aj_callV (rest := []) C mvL_189 (sX11_numbers hq1 h) hq1 (aj_np 3 (by decide +kernel) rfl) (Nat.le_of_ble_eq_true rfl) rfl dL_law_1394 (fun r m85 h => ?_)
        obtain ⟨z85, rfl, h⟩ := h
        refine aj_aload_n C dL_law_1397 rfl ?_
        refine aj_aload_n C dL_law_1398 rfl ?_
        refine aj_iload_n C dL_law_1399 rfl ?_
        refine aj_iconst C dL_law_1400 ?_
        refine aj_iadd C dL_law_1401 ?_
        obtain ⟨r0, h⟩ := h
        refine lj_sld C ha0 hba0 r0 dL_law_1402 ?_
        refine aj_aload_n C dL_law_1403 rfl ?_
        refine aj_iload_n C dL_law_1404 rfl ?_
        refine aj_iconst C dL_law_1405 ?_
        refine aj_iadd C dL_law_1406 ?_
        obtain ⟨r0, h⟩ := h
        refine lj_sld C ha0 hba0 r0 dL_law_1407 ?_
        refine aj_aload_n C dL_law_1408 rfl ?_
        refine aj_iload_n C dL_law_1409 rfl ?_
        refine aj_iconst C dL_law_1410 ?_
        refine aj_iadd C dL_law_1411 ?_
        obtain ⟨r0, h⟩ := h
        refine lj_sld C ha0 hba0 r0 dL_law_1412 ?_
        refine aj_callV (rest := [vI z85]) C mvL_192 (sX12_numbers hq2 h) hq2 (aj_np 3 (by decide +kernel) rfl) (Nat.le_of_ble_eq_true rfl) rfl dL_law_1413 (fun r m86 h => ?_)
        obtain ⟨z86, rfl, h⟩ := h
        obtain ⟨r0, r1, h1, h2⟩ := h
        refine aj_icmp_eq (tgt := 1587) C dL_law_1416 (by decide) r0 r1 (fun e => ?_) (fun e => ?_)
        · have h := h1 e
          refine aj_iinc (lv' := [some (vA 10 ba0 a0), some (vO 11 q1), some (vO 12 q2), some (vI (v3 + 6))]) C dL_law_1587 rfl (by decide) rfl ?_
          refine aj_goto (tgt := 18) C dL_law_1590 (by decide) ?_
          exact ih ba0 a0 q1 q2 (v3 + 6) _ ha0 hba0 hq1 hq2 h
        · have h := h2 e
          refine aj_iconst C dL_law_1419 ?_
          exact h.elim
      · have h := hc43 e
        refine aj_tin (tgt := 1421) (off := 1388) C dL_law_33 r0 (by omega) (by omega) (by rw [e]; rfl) (by decide) ?_
        refine aj_aload_n C dL_law_1421 rfl ?_
        refine aj_aload_n C dL_law_1422 rfl ?_
        refine aj_iload_n C dL_law_1423 rfl ?_
        refine aj_iconst C dL_law_1424 ?_
        refine aj_iadd C dL_law_1425 ?_
        obtain ⟨r0, h⟩ := h
        refine lj_sld C ha0 hba0 r0 dL_law_1426 ?_
        refine aj_aload_n C dL_law_1427 rfl ?_
        refine aj_iload_n C dL_law_1428 rfl ?_
        refine aj_iconst C dL_law_1429 ?_
        refine aj_iadd C dL_law_1430 ?_
        obtain ⟨r0, h⟩ := h
        refine lj_sld C ha0 hba0 r0 dL_law_1431 ?_
        refine aj_aload_n C dL_law_1432 rfl ?_
        refine aj_iload_n C dL_law_1433 rfl ?_
        refine aj_iconst C dL_law_1434 ?_
        refine aj_iadd C dL_law_1435 ?_
        obtain ⟨r0, h⟩ := h
        refine lj_sld C ha0 hba0 r0 dL_law_1436 ?_
        obtain ⟨r0, h⟩ := h
        refine aj_i2l C dL_law_1437 r0 ?_
        refine aj_bipush C dL_law_1438 (by decide) ?_
        refine aj_lshl_ C dL_law_1440 ?_
        refine aj_aload_n C dL_law_1441 rfl ?_
        refine aj_iload_n C dL_law_1442 rfl ?_
        refine aj_iconst C dL_law_1443 ?_
        refine aj_iadd C dL_law_1444 ?_
        obtain ⟨r0, h⟩ := h
        refine lj_sld C ha0 hba0 r0 dL_law_1445 ?_
        obtain ⟨r0, h⟩ := h
        refine aj_i2l C dL_law_1446 r0 ?_
        refine aj_ldc2 (z := 4294967295) C (wd2197) rfl dL_law_1447 ?_
        refine aj_land C dL_law_1450 ?_
        refine aj_lor C dL_law_1451 ?_
        refine aj_callV (rest := []) C mvL_195 (sX11_write hq1 h) hq1 (aj_np 3 (by decide +kernel) rfl) (Nat.le_of_ble_eq_true rfl) rfl dL_law_1452 (fun r m87 h => ?_)
        obtain ⟨z87, rfl, h⟩ := h
        refine aj_aload_n C dL_law_1455 rfl ?_
        refine aj_aload_n C dL_law_1456 rfl ?_
        refine aj_iload_n C dL_law_1457 rfl ?_
        refine aj_iconst C dL_law_1458 ?_
        refine aj_iadd C dL_law_1459 ?_
        obtain ⟨r0, h⟩ := h
        refine lj_sld C ha0 hba0 r0 dL_law_1460 ?_
        refine aj_aload_n C dL_law_1461 rfl ?_
        refine aj_iload_n C dL_law_1462 rfl ?_
        refine aj_iconst C dL_law_1463 ?_
        refine aj_iadd C dL_law_1464 ?_
        obtain ⟨r0, h⟩ := h
        refine lj_sld C ha0 hba0 r0 dL_law_1465 ?_
        refine aj_aload_n C dL_law_1466 rfl ?_
        refine aj_iload_n C dL_law_1467 rfl ?_
        refine aj_iconst C dL_law_1468 ?_
        refine aj_iadd C dL_law_1469 ?_
        obtain ⟨r0, h⟩ := h
        refine lj_sld C ha0 hba0 r0 dL_law_1470 ?_
        obtain ⟨r0, h⟩ := h
        refine aj_i2l C dL_law_1471 r0 ?_
        refine aj_bipush C dL_law_1472 (by decide) ?_
        refine aj_lshl_ C dL_law_1474 ?_
        refine aj_aload_n C dL_law_1475 rfl ?_
        refine aj_iload_n C dL_law_1476 rfl ?_
        refine aj_iconst C dL_law_1477 ?_
        refine aj_iadd C dL_law_1478 ?_
        obtain ⟨r0, h⟩ := h
        refine lj_sld C ha0 hba0 r0 dL_law_1479 ?_
        obtain ⟨r0, h⟩ := h
        refine aj_i2l C dL_law_1480 r0 ?_
        refine aj_ldc2 (z := 4294967295) C (wd2197) rfl dL_law_1481 ?_
        refine aj_land C dL_law_1484 ?_
        refine aj_lor C dL_law_1485 ?_
        refine aj_callV (rest := [vL z87]) C mvL_199 (sX12_write hq2 h) hq2 (aj_np 3 (by decide +kernel) rfl) (Nat.le_of_ble_eq_true rfl) rfl dL_law_1486 (fun r m88 h => ?_)
        obtain ⟨z88, rfl, h⟩ := h
        obtain ⟨r0, r1, h1, h2⟩ := h
        refine aj_lcmp_eq (tgt := 1587) C dL_law_1489 dL_law_1490 (by decide) r0 r1 (fun e => ?_) (fun e => ?_)
        · have h := h1 e
          refine aj_iinc (lv' := [some (vA 10 ba0 a0), some (vO 11 q1), some (vO 12 q2), some (vI (v3 + 6))]) C dL_law_1587 rfl (by decide) rfl ?_
          refine aj_goto (tgt := 18) C dL_law_1590 (by decide) ?_
          exact ih ba0 a0 q1 q2 (v3 + 6) _ ha0 hba0 hq1 hq2 h
        · have h := h2 e
          refine aj_iconst C dL_law_1493 ?_
          exact h.elim
      · have h := hc44 e
        refine aj_tin (tgt := 1495) (off := 1462) C dL_law_33 r0 (by omega) (by omega) (by rw [e]; rfl) (by decide) ?_
        refine aj_aload_n C dL_law_1495 rfl ?_
        refine aj_aload_n C dL_law_1496 rfl ?_
        refine aj_iload_n C dL_law_1497 rfl ?_
        refine aj_iconst C dL_law_1498 ?_
        refine aj_iadd C dL_law_1499 ?_
        obtain ⟨r0, h⟩ := h
        refine lj_sld C ha0 hba0 r0 dL_law_1500 ?_
        refine aj_callV (rest := []) C mvL_200 (sX11_lists hq1 h) hq1 (aj_np 1 (by decide +kernel) rfl) (Nat.le_of_ble_eq_true rfl) rfl dL_law_1501 (fun r m89 h => ?_)
        obtain ⟨z89, rfl, h⟩ := h
        refine aj_aload_n C dL_law_1504 rfl ?_
        refine aj_aload_n C dL_law_1505 rfl ?_
        refine aj_iload_n C dL_law_1506 rfl ?_
        refine aj_iconst C dL_law_1507 ?_
        refine aj_iadd C dL_law_1508 ?_
        obtain ⟨r0, h⟩ := h
        refine lj_sld C ha0 hba0 r0 dL_law_1509 ?_
        refine aj_callV (rest := [vI z89]) C mvL_203 (sX12_lists hq2 h) hq2 (aj_np 1 (by decide +kernel) rfl) (Nat.le_of_ble_eq_true rfl) rfl dL_law_1510 (fun r m90 h => ?_)
        obtain ⟨z90, rfl, h⟩ := h
        obtain ⟨r0, r1, h1, h2⟩ := h
        refine aj_icmp_eq (tgt := 1587) C dL_law_1513 (by decide) r0 r1 (fun e => ?_) (fun e => ?_)
        · have h := h1 e
          refine aj_iinc (lv' := [some (vA 10 ba0 a0), some (vO 11 q1), some (vO 12 q2), some (vI (v3 + 6))]) C dL_law_1587 rfl (by decide) rfl ?_
          refine aj_goto (tgt := 18) C dL_law_1590 (by decide) ?_
          exact ih ba0 a0 q1 q2 (v3 + 6) _ ha0 hba0 hq1 hq2 h
        · have h := h2 e
          refine aj_iconst C dL_law_1516 ?_
          exact h.elim
      · have h := hc45 e
        refine aj_tin (tgt := 1518) (off := 1485) C dL_law_33 r0 (by omega) (by omega) (by rw [e]; rfl) (by decide) ?_
        refine aj_aload_n C dL_law_1518 rfl ?_
        refine aj_aload_n C dL_law_1519 rfl ?_
        refine aj_iload_n C dL_law_1520 rfl ?_
        refine aj_iconst C dL_law_1521 ?_
        refine aj_iadd C dL_law_1522 ?_
        obtain ⟨r0, h⟩ := h
        refine lj_sld C ha0 hba0 r0 dL_law_1523 ?_
        refine aj_callV (rest := []) C mvL_204 (sX11_image hq1 h) hq1 (aj_np 1 (by decide +kernel) rfl) (Nat.le_of_ble_eq_true rfl) rfl dL_law_1524 (fun r m91 h => ?_)
        obtain ⟨z91, rfl, h⟩ := h
        refine aj_aload_n C dL_law_1527 rfl ?_
        refine aj_aload_n C dL_law_1528 rfl ?_
        refine aj_iload_n C dL_law_1529 rfl ?_
        refine aj_iconst C dL_law_1530 ?_
        refine aj_iadd C dL_law_1531 ?_
        obtain ⟨r0, h⟩ := h
        refine lj_sld C ha0 hba0 r0 dL_law_1532 ?_
        refine aj_callV (rest := [vI z91]) C mvL_207 (sX12_image hq2 h) hq2 (aj_np 1 (by decide +kernel) rfl) (Nat.le_of_ble_eq_true rfl) rfl dL_law_1533 (fun r m92 h => ?_)
        obtain ⟨z92, rfl, h⟩ := h
        obtain ⟨r0, r1, h1, h2⟩ := h
        refine aj_icmp_eq (tgt := 1587) C dL_law_1536 (by decide) r0 r1 (fun e => ?_) (fun e => ?_)
        · have h := h1 e
          refine aj_iinc (lv' := [some (vA 10 ba0 a0), some (vO 11 q1), some (vO 12 q2), some (vI (v3 + 6))]) C dL_law_1587 rfl (by decide) rfl ?_
          refine aj_goto (tgt := 18) C dL_law_1590 (by decide) ?_
          exact ih ba0 a0 q1 q2 (v3 + 6) _ ha0 hba0 hq1 hq2 h
        · have h := h2 e
          refine aj_iconst C dL_law_1539 ?_
          exact h.elim
      · have h := hc46 e
        refine aj_tin (tgt := 1541) (off := 1508) C dL_law_33 r0 (by omega) (by omega) (by rw [e]; rfl) (by decide) ?_
        refine aj_aload_n C dL_law_1541 rfl ?_
        refine aj_aload_n C dL_law_1542 rfl ?_
        refine aj_iload_n C dL_law_1543 rfl ?_
        refine aj_iconst C dL_law_1544 ?_
        refine aj_iadd C dL_law_1545 ?_
        obtain ⟨r0, h⟩ := h
        refine lj_sld C ha0 hba0 r0 dL_law_1546 ?_
        refine aj_callV (rest := []) C mvL_208 (sX11_restore hq1 h) hq1 (aj_np 1 (by decide +kernel) rfl) (Nat.le_of_ble_eq_true rfl) rfl dL_law_1547 (fun r m93 h => ?_)
        obtain ⟨z93, rfl, h⟩ := h
        refine aj_aload_n C dL_law_1550 rfl ?_
        refine aj_aload_n C dL_law_1551 rfl ?_
        refine aj_iload_n C dL_law_1552 rfl ?_
        refine aj_iconst C dL_law_1553 ?_
        refine aj_iadd C dL_law_1554 ?_
        obtain ⟨r0, h⟩ := h
        refine lj_sld C ha0 hba0 r0 dL_law_1555 ?_
        refine aj_callV (rest := [vI z93]) C mvL_211 (sX12_restore hq2 h) hq2 (aj_np 1 (by decide +kernel) rfl) (Nat.le_of_ble_eq_true rfl) rfl dL_law_1556 (fun r m94 h => ?_)
        obtain ⟨z94, rfl, h⟩ := h
        obtain ⟨r0, r1, h1, h2⟩ := h
        refine aj_icmp_eq (tgt := 1587) C dL_law_1559 (by decide) r0 r1 (fun e => ?_) (fun e => ?_)
        · have h := h1 e
          refine aj_iinc (lv' := [some (vA 10 ba0 a0), some (vO 11 q1), some (vO 12 q2), some (vI (v3 + 6))]) C dL_law_1587 rfl (by decide) rfl ?_
          refine aj_goto (tgt := 18) C dL_law_1590 (by decide) ?_
          exact ih ba0 a0 q1 q2 (v3 + 6) _ ha0 hba0 hq1 hq2 h
        · have h := h2 e
          refine aj_iconst C dL_law_1562 ?_
          exact h.elim
      · have h := hc47 e
        refine aj_tin (tgt := 1564) (off := 1531) C dL_law_33 r0 (by omega) (by omega) (by rw [e]; rfl) (by decide) ?_
        refine aj_aload_n C dL_law_1564 rfl ?_
        refine aj_aload_n C dL_law_1565 rfl ?_
        refine aj_iload_n C dL_law_1566 rfl ?_
        refine aj_iconst C dL_law_1567 ?_
        refine aj_iadd C dL_law_1568 ?_
        obtain ⟨r0, h⟩ := h
        refine lj_sld C ha0 hba0 r0 dL_law_1569 ?_
        refine aj_callV (rest := []) C mvL_212 (sX11_count hq1 h) hq1 (aj_np 1 (by decide +kernel) rfl) (Nat.le_of_ble_eq_true rfl) rfl dL_law_1570 (fun r m95 h => ?_)
        obtain ⟨z95, rfl, h⟩ := h
        refine aj_aload_n C dL_law_1573 rfl ?_
        refine aj_aload_n C dL_law_1574 rfl ?_
        refine aj_iload_n C dL_law_1575 rfl ?_
        refine aj_iconst C dL_law_1576 ?_
        refine aj_iadd C dL_law_1577 ?_
        obtain ⟨r0, h⟩ := h
        refine lj_sld C ha0 hba0 r0 dL_law_1578 ?_
        refine aj_callV (rest := [vI z95]) C mvL_215 (sX12_count hq2 h) hq2 (aj_np 1 (by decide +kernel) rfl) (Nat.le_of_ble_eq_true rfl) rfl dL_law_1579 (fun r m96 h => ?_)
        obtain ⟨z96, rfl, h⟩ := h
        obtain ⟨r0, r1, h1, h2⟩ := h
        refine aj_icmp_eq (tgt := 1587) C dL_law_1582 (by decide) r0 r1 (fun e => ?_) (fun e => ?_)
        · have h := h1 e
          refine aj_iinc (lv' := [some (vA 10 ba0 a0), some (vO 11 q1), some (vO 12 q2), some (vI (v3 + 6))]) C dL_law_1587 rfl (by decide) rfl ?_
          refine aj_goto (tgt := 18) C dL_law_1590 (by decide) ?_
          exact ih ba0 a0 q1 q2 (v3 + 6) _ ha0 hba0 hq1 hq2 h
        · have h := h2 e
          refine aj_iconst C dL_law_1585 ?_
          exact h.elim
