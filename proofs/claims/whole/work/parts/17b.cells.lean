set_option maxRecDepth 100000 in
theorem ce0 (D : va_G) (cA : Nat → ClassId) (adX adM adK adV : Nat → Nat) (ax b : Nat) : (bX11 cA adX)[0]? = some (st_ad adX adM adK adV ax b [0], aj_e (st_E D cA adX adM adK adV ax b) st_m0 (.inl (11, [0]))) := rfl
set_option maxRecDepth 100000 in
theorem ce1 (D : va_G) (cA : Nat → ClassId) (adX adM adK adV : Nat → Nat) (ax b : Nat) : (bX11 cA adX)[1]? = some (st_ad adX adM adK adV ax b [0, 0], aj_e (st_E D cA adX adM adK adV ax b) st_m0 (.inl (7, [0, 0]))) := rfl
set_option maxRecDepth 100000 in
theorem ce2 (D : va_G) (cA : Nat → ClassId) (adX adM adK adV : Nat → Nat) (ax b : Nat) : (bX11 cA adX)[2]? = some (st_ad adX adM adK adV ax b [0, 0, 0], aj_e (st_E D cA adX adM adK adV ax b) st_m0 (.inr (2, 900, [0, 0, 0]))) := rfl
set_option maxRecDepth 100000 in
theorem ce3 (D : va_G) (cA : Nat → ClassId) (adX adM adK adV : Nat → Nat) (ax b : Nat) : (bX11 cA adX)[3]? = some (st_ad adX adM adK adV ax b [3, 0, 0], aj_e (st_E D cA adX adM adK adV ax b) st_m0 (.inl (6, [3, 0, 0]))) := rfl
set_option maxRecDepth 100000 in
theorem ce4 (D : va_G) (cA : Nat → ClassId) (adX adM adK adV : Nat → Nat) (ax b : Nat) : (bX11 cA adX)[4]? = some (st_ad adX adM adK adV ax b [0, 3, 0, 0], aj_e (st_E D cA adX adM adK adV ax b) st_m0 (.inl (0, [0, 3, 0, 0]))) := rfl
set_option maxRecDepth 100000 in
theorem ce5 (D : va_G) (cA : Nat → ClassId) (adX adM adK adV : Nat → Nat) (ax b : Nat) : (bX11 cA adX)[5]? = some (st_ad adX adM adK adV ax b [1, 0, 3, 0, 0], aj_e (st_E D cA adX adM adK adV ax b) st_m0 (.inr (0, 144, [1, 0, 3, 0, 0]))) := rfl
set_option maxRecDepth 100000 in
theorem ce6 (D : va_G) (cA : Nat → ClassId) (adX adM adK adV : Nat → Nat) (ax b : Nat) : (bX11 cA adX)[6]? = some (st_ad adX adM adK adV ax b [2, 0, 3, 0, 0], aj_e (st_E D cA adX adM adK adV ax b) st_m0 (.inr (0, 12, [2, 0, 3, 0, 0]))) := rfl
set_option maxRecDepth 100000 in
theorem ce7 (D : va_G) (cA : Nat → ClassId) (adX adM adK adV : Nat → Nat) (ax b : Nat) : (bX11 cA adX)[7]? = some (st_ad adX adM adK adV ax b [3, 0, 3, 0, 0], aj_e (st_E D cA adX adM adK adV ax b) st_m0 (.inr (0, 12, [3, 0, 3, 0, 0]))) := by
  show some (_, Sum.inl (_, _, Sum.inl _)) = some (_, Sum.inl (_, _, Sum.inl _))
  congr 5
  refine congrArg Sum.inl (funext fun k => ?_)
  show _ = Int32.ofInt (st_rd [3, 0, 3, 0, 0] k st_ex)
  simp [st_rd, st_ex, aj_leq, pl_g]
  repeat' split
  all_goals first | rfl | omega | simp_all
set_option maxRecDepth 100000 in
theorem ce8 (D : va_G) (cA : Nat → ClassId) (adX adM adK adV : Nat → Nat) (ax b : Nat) : (bX11 cA adX)[8]? = some (st_ad adX adM adK adV ax b [1, 3, 0, 0], aj_e (st_E D cA adX adM adK adV ax b) st_m0 (.inl (4, [1, 3, 0, 0]))) := rfl
set_option maxRecDepth 100000 in
theorem ce9 (D : va_G) (cA : Nat → ClassId) (adX adM adK adV : Nat → Nat) (ax b : Nat) : (bX11 cA adX)[9]? = some (st_ad adX adM adK adV ax b [0, 1, 3, 0, 0], aj_e (st_E D cA adX adM adK adV ax b) st_m0 (.inr (0, 900, [0, 1, 3, 0, 0]))) := rfl
set_option maxRecDepth 100000 in
theorem ce10 (D : va_G) (cA : Nat → ClassId) (adX adM adK adV : Nat → Nat) (ax b : Nat) : (bX11 cA adX)[10]? = some (st_ad adX adM adK adV ax b [6, 1, 3, 0, 0], aj_e (st_E D cA adX adM adK adV ax b) st_m0 (.inr (0, 64, [6, 1, 3, 0, 0]))) := rfl
set_option maxRecDepth 100000 in
theorem ce11 (D : va_G) (cA : Nat → ClassId) (adX adM adK adV : Nat → Nat) (ax b : Nat) : (bX11 cA adX)[11]? = some (st_ad adX adM adK adV ax b [7, 3, 0, 0], aj_e (st_E D cA adX adM adK adV ax b) st_m0 (.inr (0, 12, [7, 3, 0, 0]))) := rfl
set_option maxRecDepth 100000 in
theorem ce12 (D : va_G) (cA : Nat → ClassId) (adX adM adK adV : Nat → Nat) (ax b : Nat) : (bX11 cA adX)[12]? = some (st_ad adX adM adK adV ax b [8, 3, 0, 0], aj_e (st_E D cA adX adM adK adV ax b) st_m0 (.inr (0, 12, [8, 3, 0, 0]))) := rfl
set_option maxRecDepth 100000 in
theorem ce13 (D : va_G) (cA : Nat → ClassId) (adX adM adK adV : Nat → Nat) (ax b : Nat) : (bX11 cA adX)[13]? = some (st_ad adX adM adK adV ax b [9, 3, 0, 0], aj_e (st_E D cA adX adM adK adV ax b) st_m0 (.inr (0, 12, [9, 3, 0, 0]))) := rfl
set_option maxRecDepth 100000 in
theorem ce14 (D : va_G) (cA : Nat → ClassId) (adX adM adK adV : Nat → Nat) (ax b : Nat) : (bX11 cA adX)[14]? = some (st_ad adX adM adK adV ax b [11, 3, 0, 0], aj_e (st_E D cA adX adM adK adV ax b) st_m0 (.inr (0, 12, [11, 3, 0, 0]))) := rfl
set_option maxRecDepth 100000 in
theorem ce15 (D : va_G) (cA : Nat → ClassId) (adX adM adK adV : Nat → Nat) (ax b : Nat) : (bX11 cA adX)[15]? = some (st_ad adX adM adK adV ax b [1, 0], aj_e (st_E D cA adX adM adK adV ax b) st_m0 (.inl (6, [1, 0]))) := rfl
set_option maxRecDepth 100000 in
theorem ce16 (D : va_G) (cA : Nat → ClassId) (adX adM adK adV : Nat → Nat) (ax b : Nat) : (bX11 cA adX)[16]? = some (st_ad adX adM adK adV ax b [0, 1, 0], aj_e (st_E D cA adX adM adK adV ax b) st_m0 (.inl (0, [0, 1, 0]))) := rfl
set_option maxRecDepth 100000 in
theorem ce17 (D : va_G) (cA : Nat → ClassId) (adX adM adK adV : Nat → Nat) (ax b : Nat) : (bX11 cA adX)[17]? = some (st_ad adX adM adK adV ax b [1, 0, 1, 0], aj_e (st_E D cA adX adM adK adV ax b) st_m0 (.inr (0, 144, [1, 0, 1, 0]))) := rfl
set_option maxRecDepth 100000 in
theorem ce18 (D : va_G) (cA : Nat → ClassId) (adX adM adK adV : Nat → Nat) (ax b : Nat) : (bX11 cA adX)[18]? = some (st_ad adX adM adK adV ax b [2, 0, 1, 0], aj_e (st_E D cA adX adM adK adV ax b) st_m0 (.inr (0, 12, [2, 0, 1, 0]))) := rfl
set_option maxRecDepth 100000 in
theorem ce19 (D : va_G) (cA : Nat → ClassId) (adX adM adK adV : Nat → Nat) (ax b : Nat) : (bX11 cA adX)[19]? = some (st_ad adX adM adK adV ax b [3, 0, 1, 0], aj_e (st_E D cA adX adM adK adV ax b) st_m0 (.inr (0, 12, [3, 0, 1, 0]))) := by
  show some (_, Sum.inl (_, _, Sum.inl _)) = some (_, Sum.inl (_, _, Sum.inl _))
  congr 5
  refine congrArg Sum.inl (funext fun k => ?_)
  show _ = Int32.ofInt (st_rd [3, 0, 1, 0] k st_ex)
  simp [st_rd, st_ex, aj_leq, pl_g]
  repeat' split
  all_goals first | rfl | omega | simp_all
set_option maxRecDepth 100000 in
theorem ce20 (D : va_G) (cA : Nat → ClassId) (adX adM adK adV : Nat → Nat) (ax b : Nat) : (bX11 cA adX)[20]? = some (st_ad adX adM adK adV ax b [1, 1, 0], aj_e (st_E D cA adX adM adK adV ax b) st_m0 (.inl (4, [1, 1, 0]))) := rfl
set_option maxRecDepth 100000 in
theorem ce21 (D : va_G) (cA : Nat → ClassId) (adX adM adK adV : Nat → Nat) (ax b : Nat) : (bX11 cA adX)[21]? = some (st_ad adX adM adK adV ax b [0, 1, 1, 0], aj_e (st_E D cA adX adM adK adV ax b) st_m0 (.inr (0, 900, [0, 1, 1, 0]))) := rfl
set_option maxRecDepth 100000 in
theorem ce22 (D : va_G) (cA : Nat → ClassId) (adX adM adK adV : Nat → Nat) (ax b : Nat) : (bX11 cA adX)[22]? = some (st_ad adX adM adK adV ax b [6, 1, 1, 0], aj_e (st_E D cA adX adM adK adV ax b) st_m0 (.inr (0, 64, [6, 1, 1, 0]))) := rfl
set_option maxRecDepth 100000 in
theorem ce23 (D : va_G) (cA : Nat → ClassId) (adX adM adK adV : Nat → Nat) (ax b : Nat) : (bX11 cA adX)[23]? = some (st_ad adX adM adK adV ax b [7, 1, 0], aj_e (st_E D cA adX adM adK adV ax b) st_m0 (.inr (0, 12, [7, 1, 0]))) := rfl
set_option maxRecDepth 100000 in
theorem ce24 (D : va_G) (cA : Nat → ClassId) (adX adM adK adV : Nat → Nat) (ax b : Nat) : (bX11 cA adX)[24]? = some (st_ad adX adM adK adV ax b [8, 1, 0], aj_e (st_E D cA adX adM adK adV ax b) st_m0 (.inr (0, 12, [8, 1, 0]))) := rfl
set_option maxRecDepth 100000 in
theorem ce25 (D : va_G) (cA : Nat → ClassId) (adX adM adK adV : Nat → Nat) (ax b : Nat) : (bX11 cA adX)[25]? = some (st_ad adX adM adK adV ax b [9, 1, 0], aj_e (st_E D cA adX adM adK adV ax b) st_m0 (.inr (0, 12, [9, 1, 0]))) := rfl
set_option maxRecDepth 100000 in
theorem ce26 (D : va_G) (cA : Nat → ClassId) (adX adM adK adV : Nat → Nat) (ax b : Nat) : (bX11 cA adX)[26]? = some (st_ad adX adM adK adV ax b [11, 1, 0], aj_e (st_E D cA adX adM adK adV ax b) st_m0 (.inr (0, 12, [11, 1, 0]))) := rfl
set_option maxRecDepth 100000 in
theorem ce27 (D : va_G) (cA : Nat → ClassId) (adX adM adK adV : Nat → Nat) (ax b : Nat) : (bX11 cA adX)[27]? = some (st_ad adX adM adK adV ax b [2, 0], aj_e (st_E D cA adX adM adK adV ax b) st_m0 (.inl (9, [2, 0]))) := rfl
set_option maxRecDepth 100000 in
theorem ce28 (D : va_G) (cA : Nat → ClassId) (adX adM adK adV : Nat → Nat) (ax b : Nat) : (bX11 cA adX)[28]? = some (st_ad adX adM adK adV ax b [0, 2, 0], aj_e (st_E D cA adX adM adK adV ax b) st_m0 (.inr (0, 12, [0, 2, 0]))) := rfl
set_option maxRecDepth 100000 in
theorem ce29 (D : va_G) (cA : Nat → ClassId) (adX adM adK adV : Nat → Nat) (ax b : Nat) : (bX11 cA adX)[29]? = some (st_ad adX adM adK adV ax b [3, 0], aj_e (st_E D cA adX adM adK adV ax b) st_m0 (.inl (9, [3, 0]))) := rfl
set_option maxRecDepth 100000 in
theorem ce30 (D : va_G) (cA : Nat → ClassId) (adX adM adK adV : Nat → Nat) (ax b : Nat) : (bX11 cA adX)[30]? = some (st_ad adX adM adK adV ax b [0, 3, 0], aj_e (st_E D cA adX adM adK adV ax b) st_m0 (.inr (0, 12, [0, 3, 0]))) := rfl
set_option maxRecDepth 100000 in
theorem ce31 (D : va_G) (cA : Nat → ClassId) (adX adM adK adV : Nat → Nat) (ax b : Nat) : (bX11 cA adX)[31]? = some (st_ad adX adM adK adV ax b [4, 0], aj_e (st_E D cA adX adM adK adV ax b) st_m0 (.inl (9, [4, 0]))) := rfl
set_option maxRecDepth 100000 in
theorem ce32 (D : va_G) (cA : Nat → ClassId) (adX adM adK adV : Nat → Nat) (ax b : Nat) : (bX11 cA adX)[32]? = some (st_ad adX adM adK adV ax b [0, 4, 0], aj_e (st_E D cA adX adM adK adV ax b) st_m0 (.inr (0, 12, [0, 4, 0]))) := rfl
set_option maxRecDepth 100000 in
theorem ce33 (D : va_G) (cA : Nat → ClassId) (adX adM adK adV : Nat → Nat) (ax b : Nat) : (bX11 cA adX)[33]? = some (st_ad adX adM adK adV ax b [5, 0], aj_e (st_E D cA adX adM adK adV ax b) st_m0 (.inl (1, [5, 0]))) := rfl
set_option maxRecDepth 100000 in
theorem ce35 (D : va_G) (cA : Nat → ClassId) (adX adM adK adV : Nat → Nat) (ax b : Nat) : (bX11 cA adX)[35]? = some (st_ad adX adM adK adV ax b [0, 0, 5, 0], aj_e (st_E D cA adX adM adK adV ax b) st_m0 (.inl (9, [0, 0, 5, 0]))) := rfl
set_option maxRecDepth 100000 in
theorem ce36 (D : va_G) (cA : Nat → ClassId) (adX adM adK adV : Nat → Nat) (ax b : Nat) : (bX11 cA adX)[36]? = some (st_ad adX adM adK adV ax b [0, 0, 0, 5, 0], aj_e (st_E D cA adX adM adK adV ax b) st_m0 (.inr (0, 12, [0, 0, 0, 5, 0]))) := rfl
set_option maxRecDepth 100000 in
theorem ce37 (D : va_G) (cA : Nat → ClassId) (adX adM adK adV : Nat → Nat) (ax b : Nat) : (bX11 cA adX)[37]? = some (st_ad adX adM adK adV ax b [1, 0, 5, 0], aj_e (st_E D cA adX adM adK adV ax b) st_m0 (.inl (9, [1, 0, 5, 0]))) := rfl
set_option maxRecDepth 100000 in
theorem ce38 (D : va_G) (cA : Nat → ClassId) (adX adM adK adV : Nat → Nat) (ax b : Nat) : (bX11 cA adX)[38]? = some (st_ad adX adM adK adV ax b [0, 1, 0, 5, 0], aj_e (st_E D cA adX adM adK adV ax b) st_m0 (.inr (0, 12, [0, 1, 0, 5, 0]))) := rfl
set_option maxRecDepth 100000 in
theorem ce39 (D : va_G) (cA : Nat → ClassId) (adX adM adK adV : Nat → Nat) (ax b : Nat) : (bX11 cA adX)[39]? = some (st_ad adX adM adK adV ax b [2, 0, 5, 0], aj_e (st_E D cA adX adM adK adV ax b) st_m0 (.inl (9, [2, 0, 5, 0]))) := rfl
set_option maxRecDepth 100000 in
theorem ce40 (D : va_G) (cA : Nat → ClassId) (adX adM adK adV : Nat → Nat) (ax b : Nat) : (bX11 cA adX)[40]? = some (st_ad adX adM adK adV ax b [0, 2, 0, 5, 0], aj_e (st_E D cA adX adM adK adV ax b) st_m0 (.inr (0, 12, [0, 2, 0, 5, 0]))) := rfl
set_option maxRecDepth 100000 in
theorem ce41 (D : va_G) (cA : Nat → ClassId) (adX adM adK adV : Nat → Nat) (ax b : Nat) : (bX11 cA adX)[41]? = some (st_ad adX adM adK adV ax b [3, 0, 5, 0], aj_e (st_E D cA adX adM adK adV ax b) st_m0 (.inl (9, [3, 0, 5, 0]))) := rfl
set_option maxRecDepth 100000 in
theorem ce42 (D : va_G) (cA : Nat → ClassId) (adX adM adK adV : Nat → Nat) (ax b : Nat) : (bX11 cA adX)[42]? = some (st_ad adX adM adK adV ax b [0, 3, 0, 5, 0], aj_e (st_E D cA adX adM adK adV ax b) st_m0 (.inr (0, 12, [0, 3, 0, 5, 0]))) := rfl
set_option maxRecDepth 100000 in
theorem ce43 (D : va_G) (cA : Nat → ClassId) (adX adM adK adV : Nat → Nat) (ax b : Nat) : (bX11 cA adX)[43]? = some (st_ad adX adM adK adV ax b [4, 0, 5, 0], aj_e (st_E D cA adX adM adK adV ax b) st_m0 (.inl (9, [4, 0, 5, 0]))) := rfl
set_option maxRecDepth 100000 in
theorem ce44 (D : va_G) (cA : Nat → ClassId) (adX adM adK adV : Nat → Nat) (ax b : Nat) : (bX11 cA adX)[44]? = some (st_ad adX adM adK adV ax b [0, 4, 0, 5, 0], aj_e (st_E D cA adX adM adK adV ax b) st_m0 (.inr (0, 12, [0, 4, 0, 5, 0]))) := rfl
set_option maxRecDepth 100000 in
theorem ce45 (D : va_G) (cA : Nat → ClassId) (adX adM adK adV : Nat → Nat) (ax b : Nat) : (bX11 cA adX)[45]? = some (st_ad adX adM adK adV ax b [5, 0, 5, 0], aj_e (st_E D cA adX adM adK adV ax b) st_m0 (.inl (9, [5, 0, 5, 0]))) := rfl
set_option maxRecDepth 100000 in
theorem ce46 (D : va_G) (cA : Nat → ClassId) (adX adM adK adV : Nat → Nat) (ax b : Nat) : (bX11 cA adX)[46]? = some (st_ad adX adM adK adV ax b [0, 5, 0, 5, 0], aj_e (st_E D cA adX adM adK adV ax b) st_m0 (.inr (0, 12, [0, 5, 0, 5, 0]))) := rfl
set_option maxRecDepth 100000 in
theorem ce47 (D : va_G) (cA : Nat → ClassId) (adX adM adK adV : Nat → Nat) (ax b : Nat) : (bX11 cA adX)[47]? = some (st_ad adX adM adK adV ax b [6, 0, 5, 0], aj_e (st_E D cA adX adM adK adV ax b) st_m0 (.inl (9, [6, 0, 5, 0]))) := rfl
set_option maxRecDepth 100000 in
theorem ce48 (D : va_G) (cA : Nat → ClassId) (adX adM adK adV : Nat → Nat) (ax b : Nat) : (bX11 cA adX)[48]? = some (st_ad adX adM adK adV ax b [0, 6, 0, 5, 0], aj_e (st_E D cA adX adM adK adV ax b) st_m0 (.inr (0, 12, [0, 6, 0, 5, 0]))) := rfl
set_option maxRecDepth 100000 in
theorem ce49 (D : va_G) (cA : Nat → ClassId) (adX adM adK adV : Nat → Nat) (ax b : Nat) : (bX11 cA adX)[49]? = some (st_ad adX adM adK adV ax b [7, 0, 5, 0], aj_e (st_E D cA adX adM adK adV ax b) st_m0 (.inl (9, [7, 0, 5, 0]))) := rfl
set_option maxRecDepth 100000 in
theorem ce50 (D : va_G) (cA : Nat → ClassId) (adX adM adK adV : Nat → Nat) (ax b : Nat) : (bX11 cA adX)[50]? = some (st_ad adX adM adK adV ax b [0, 7, 0, 5, 0], aj_e (st_E D cA adX adM adK adV ax b) st_m0 (.inr (0, 12, [0, 7, 0, 5, 0]))) := rfl
set_option maxRecDepth 100000 in
theorem ce51 (D : va_G) (cA : Nat → ClassId) (adX adM adK adV : Nat → Nat) (ax b : Nat) : (bX11 cA adX)[51]? = some (st_ad adX adM adK adV ax b [8, 0, 5, 0], aj_e (st_E D cA adX adM adK adV ax b) st_m0 (.inl (9, [8, 0, 5, 0]))) := rfl
set_option maxRecDepth 100000 in
theorem ce52 (D : va_G) (cA : Nat → ClassId) (adX adM adK adV : Nat → Nat) (ax b : Nat) : (bX11 cA adX)[52]? = some (st_ad adX adM adK adV ax b [0, 8, 0, 5, 0], aj_e (st_E D cA adX adM adK adV ax b) st_m0 (.inr (0, 12, [0, 8, 0, 5, 0]))) := rfl
set_option maxRecDepth 100000 in
theorem ce53 (D : va_G) (cA : Nat → ClassId) (adX adM adK adV : Nat → Nat) (ax b : Nat) : (bX11 cA adX)[53]? = some (st_ad adX adM adK adV ax b [9, 0, 5, 0], aj_e (st_E D cA adX adM adK adV ax b) st_m0 (.inl (9, [9, 0, 5, 0]))) := rfl
set_option maxRecDepth 100000 in
theorem ce54 (D : va_G) (cA : Nat → ClassId) (adX adM adK adV : Nat → Nat) (ax b : Nat) : (bX11 cA adX)[54]? = some (st_ad adX adM adK adV ax b [0, 9, 0, 5, 0], aj_e (st_E D cA adX adM adK adV ax b) st_m0 (.inr (0, 12, [0, 9, 0, 5, 0]))) := rfl
set_option maxRecDepth 100000 in
theorem ce56 (D : va_G) (cA : Nat → ClassId) (adX adM adK adV : Nat → Nat) (ax b : Nat) : (bX11 cA adX)[94]? = some (st_ad adX adM adK adV ax b [0, 6, 0], aj_e (st_E D cA adX adM adK adV ax b) st_m0 (.inl (3, [0, 6, 0]))) := rfl
set_option maxRecDepth 100000 in
theorem ce57 (D : va_G) (cA : Nat → ClassId) (adX adM adK adV : Nat → Nat) (ax b : Nat) : (bX11 cA adX)[95]? = some (st_ad adX adM adK adV ax b [0, 0, 6, 0], aj_e (st_E D cA adX adM adK adV ax b) st_m0 (.inl (6, [0, 0, 6, 0]))) := rfl
set_option maxRecDepth 100000 in
theorem ce58 (D : va_G) (cA : Nat → ClassId) (adX adM adK adV : Nat → Nat) (ax b : Nat) : (bX11 cA adX)[96]? = some (st_ad adX adM adK adV ax b [0, 0, 0, 6, 0], aj_e (st_E D cA adX adM adK adV ax b) st_m0 (.inl (0, [0, 0, 0, 6, 0]))) := rfl
set_option maxRecDepth 100000 in
theorem ce59 (D : va_G) (cA : Nat → ClassId) (adX adM adK adV : Nat → Nat) (ax b : Nat) : (bX11 cA adX)[97]? = some (st_ad adX adM adK adV ax b [1, 0, 0, 0, 6, 0], aj_e (st_E D cA adX adM adK adV ax b) st_m0 (.inr (0, 144, [1, 0, 0, 0, 6, 0]))) := rfl
set_option maxRecDepth 100000 in
theorem ce60 (D : va_G) (cA : Nat → ClassId) (adX adM adK adV : Nat → Nat) (ax b : Nat) : (bX11 cA adX)[98]? = some (st_ad adX adM adK adV ax b [2, 0, 0, 0, 6, 0], aj_e (st_E D cA adX adM adK adV ax b) st_m0 (.inr (0, 12, [2, 0, 0, 0, 6, 0]))) := rfl
set_option maxRecDepth 100000 in
theorem ce61 (D : va_G) (cA : Nat → ClassId) (adX adM adK adV : Nat → Nat) (ax b : Nat) : (bX11 cA adX)[99]? = some (st_ad adX adM adK adV ax b [3, 0, 0, 0, 6, 0], aj_e (st_E D cA adX adM adK adV ax b) st_m0 (.inr (0, 12, [3, 0, 0, 0, 6, 0]))) := by
  show some (_, Sum.inl (_, _, Sum.inl _)) = some (_, Sum.inl (_, _, Sum.inl _))
  congr 5
  refine congrArg Sum.inl (funext fun k => ?_)
  show _ = Int32.ofInt (st_rd [3, 0, 0, 0, 6, 0] k st_ex)
  simp [st_rd, st_ex, aj_leq, pl_g]
  repeat' split
  all_goals first | rfl | omega | simp_all
set_option maxRecDepth 100000 in
theorem ce62 (D : va_G) (cA : Nat → ClassId) (adX adM adK adV : Nat → Nat) (ax b : Nat) : (bX11 cA adX)[100]? = some (st_ad adX adM adK adV ax b [1, 0, 0, 6, 0], aj_e (st_E D cA adX adM adK adV ax b) st_m0 (.inl (4, [1, 0, 0, 6, 0]))) := rfl
set_option maxRecDepth 100000 in
theorem ce63 (D : va_G) (cA : Nat → ClassId) (adX adM adK adV : Nat → Nat) (ax b : Nat) : (bX11 cA adX)[101]? = some (st_ad adX adM adK adV ax b [0, 1, 0, 0, 6, 0], aj_e (st_E D cA adX adM adK adV ax b) st_m0 (.inr (0, 900, [0, 1, 0, 0, 6, 0]))) := rfl
set_option maxRecDepth 100000 in
theorem ce64 (D : va_G) (cA : Nat → ClassId) (adX adM adK adV : Nat → Nat) (ax b : Nat) : (bX11 cA adX)[102]? = some (st_ad adX adM adK adV ax b [6, 1, 0, 0, 6, 0], aj_e (st_E D cA adX adM adK adV ax b) st_m0 (.inr (0, 64, [6, 1, 0, 0, 6, 0]))) := rfl
set_option maxRecDepth 100000 in
theorem ce65 (D : va_G) (cA : Nat → ClassId) (adX adM adK adV : Nat → Nat) (ax b : Nat) : (bX11 cA adX)[103]? = some (st_ad adX adM adK adV ax b [7, 0, 0, 6, 0], aj_e (st_E D cA adX adM adK adV ax b) st_m0 (.inr (0, 12, [7, 0, 0, 6, 0]))) := rfl
set_option maxRecDepth 100000 in
theorem ce66 (D : va_G) (cA : Nat → ClassId) (adX adM adK adV : Nat → Nat) (ax b : Nat) : (bX11 cA adX)[104]? = some (st_ad adX adM adK adV ax b [8, 0, 0, 6, 0], aj_e (st_E D cA adX adM adK adV ax b) st_m0 (.inr (0, 12, [8, 0, 0, 6, 0]))) := rfl
set_option maxRecDepth 100000 in
theorem ce67 (D : va_G) (cA : Nat → ClassId) (adX adM adK adV : Nat → Nat) (ax b : Nat) : (bX11 cA adX)[105]? = some (st_ad adX adM adK adV ax b [9, 0, 0, 6, 0], aj_e (st_E D cA adX adM adK adV ax b) st_m0 (.inr (0, 12, [9, 0, 0, 6, 0]))) := rfl
set_option maxRecDepth 100000 in
theorem ce68 (D : va_G) (cA : Nat → ClassId) (adX adM adK adV : Nat → Nat) (ax b : Nat) : (bX11 cA adX)[106]? = some (st_ad adX adM adK adV ax b [11, 0, 0, 6, 0], aj_e (st_E D cA adX adM adK adV ax b) st_m0 (.inr (0, 12, [11, 0, 0, 6, 0]))) := rfl
set_option maxRecDepth 100000 in
theorem ce69 (D : va_G) (cA : Nat → ClassId) (adX adM adK adV : Nat → Nat) (ax b : Nat) : (bX11 cA adX)[107]? = some (st_ad adX adM adK adV ax b [1, 0, 6, 0], aj_e (st_E D cA adX adM adK adV ax b) st_m0 (.inl (9, [1, 0, 6, 0]))) := rfl
set_option maxRecDepth 100000 in
theorem ce70 (D : va_G) (cA : Nat → ClassId) (adX adM adK adV : Nat → Nat) (ax b : Nat) : (bX11 cA adX)[108]? = some (st_ad adX adM adK adV ax b [0, 1, 0, 6, 0], aj_e (st_E D cA adX adM adK adV ax b) st_m0 (.inr (0, 12, [0, 1, 0, 6, 0]))) := rfl
set_option maxRecDepth 100000 in
theorem ce71 (D : va_G) (cA : Nat → ClassId) (adX adM adK adV : Nat → Nat) (ax b : Nat) : (bX11 cA adX)[109]? = some (st_ad adX adM adK adV ax b [1, 6, 0], aj_e (st_E D cA adX adM adK adV ax b) st_m0 (.inl (3, [1, 6, 0]))) := rfl
set_option maxRecDepth 100000 in
theorem ce72 (D : va_G) (cA : Nat → ClassId) (adX adM adK adV : Nat → Nat) (ax b : Nat) : (bX11 cA adX)[110]? = some (st_ad adX adM adK adV ax b [0, 1, 6, 0], aj_e (st_E D cA adX adM adK adV ax b) st_m0 (.inl (6, [0, 1, 6, 0]))) := rfl
set_option maxRecDepth 100000 in
theorem ce73 (D : va_G) (cA : Nat → ClassId) (adX adM adK adV : Nat → Nat) (ax b : Nat) : (bX11 cA adX)[111]? = some (st_ad adX adM adK adV ax b [0, 0, 1, 6, 0], aj_e (st_E D cA adX adM adK adV ax b) st_m0 (.inl (0, [0, 0, 1, 6, 0]))) := rfl
set_option maxRecDepth 100000 in
theorem ce74 (D : va_G) (cA : Nat → ClassId) (adX adM adK adV : Nat → Nat) (ax b : Nat) : (bX11 cA adX)[112]? = some (st_ad adX adM adK adV ax b [1, 0, 0, 1, 6, 0], aj_e (st_E D cA adX adM adK adV ax b) st_m0 (.inr (0, 144, [1, 0, 0, 1, 6, 0]))) := rfl
set_option maxRecDepth 100000 in
theorem ce75 (D : va_G) (cA : Nat → ClassId) (adX adM adK adV : Nat → Nat) (ax b : Nat) : (bX11 cA adX)[113]? = some (st_ad adX adM adK adV ax b [2, 0, 0, 1, 6, 0], aj_e (st_E D cA adX adM adK adV ax b) st_m0 (.inr (0, 12, [2, 0, 0, 1, 6, 0]))) := rfl
set_option maxRecDepth 100000 in
theorem ce76 (D : va_G) (cA : Nat → ClassId) (adX adM adK adV : Nat → Nat) (ax b : Nat) : (bX11 cA adX)[114]? = some (st_ad adX adM adK adV ax b [3, 0, 0, 1, 6, 0], aj_e (st_E D cA adX adM adK adV ax b) st_m0 (.inr (0, 12, [3, 0, 0, 1, 6, 0]))) := by
  show some (_, Sum.inl (_, _, Sum.inl _)) = some (_, Sum.inl (_, _, Sum.inl _))
  congr 5
  refine congrArg Sum.inl (funext fun k => ?_)
  show _ = Int32.ofInt (st_rd [3, 0, 0, 1, 6, 0] k st_ex)
  simp [st_rd, st_ex, aj_leq, pl_g]
  repeat' split
  all_goals first | rfl | omega | simp_all
set_option maxRecDepth 100000 in
theorem ce77 (D : va_G) (cA : Nat → ClassId) (adX adM adK adV : Nat → Nat) (ax b : Nat) : (bX11 cA adX)[115]? = some (st_ad adX adM adK adV ax b [1, 0, 1, 6, 0], aj_e (st_E D cA adX adM adK adV ax b) st_m0 (.inl (4, [1, 0, 1, 6, 0]))) := rfl
set_option maxRecDepth 100000 in
theorem ce78 (D : va_G) (cA : Nat → ClassId) (adX adM adK adV : Nat → Nat) (ax b : Nat) : (bX11 cA adX)[116]? = some (st_ad adX adM adK adV ax b [0, 1, 0, 1, 6, 0], aj_e (st_E D cA adX adM adK adV ax b) st_m0 (.inr (0, 900, [0, 1, 0, 1, 6, 0]))) := rfl
set_option maxRecDepth 100000 in
theorem ce79 (D : va_G) (cA : Nat → ClassId) (adX adM adK adV : Nat → Nat) (ax b : Nat) : (bX11 cA adX)[117]? = some (st_ad adX adM adK adV ax b [6, 1, 0, 1, 6, 0], aj_e (st_E D cA adX adM adK adV ax b) st_m0 (.inr (0, 64, [6, 1, 0, 1, 6, 0]))) := rfl
set_option maxRecDepth 100000 in
theorem ce80 (D : va_G) (cA : Nat → ClassId) (adX adM adK adV : Nat → Nat) (ax b : Nat) : (bX11 cA adX)[118]? = some (st_ad adX adM adK adV ax b [7, 0, 1, 6, 0], aj_e (st_E D cA adX adM adK adV ax b) st_m0 (.inr (0, 12, [7, 0, 1, 6, 0]))) := rfl
set_option maxRecDepth 100000 in
theorem ce81 (D : va_G) (cA : Nat → ClassId) (adX adM adK adV : Nat → Nat) (ax b : Nat) : (bX11 cA adX)[119]? = some (st_ad adX adM adK adV ax b [8, 0, 1, 6, 0], aj_e (st_E D cA adX adM adK adV ax b) st_m0 (.inr (0, 12, [8, 0, 1, 6, 0]))) := rfl
set_option maxRecDepth 100000 in
theorem ce82 (D : va_G) (cA : Nat → ClassId) (adX adM adK adV : Nat → Nat) (ax b : Nat) : (bX11 cA adX)[120]? = some (st_ad adX adM adK adV ax b [9, 0, 1, 6, 0], aj_e (st_E D cA adX adM adK adV ax b) st_m0 (.inr (0, 12, [9, 0, 1, 6, 0]))) := rfl
set_option maxRecDepth 100000 in
theorem ce83 (D : va_G) (cA : Nat → ClassId) (adX adM adK adV : Nat → Nat) (ax b : Nat) : (bX11 cA adX)[121]? = some (st_ad adX adM adK adV ax b [11, 0, 1, 6, 0], aj_e (st_E D cA adX adM adK adV ax b) st_m0 (.inr (0, 12, [11, 0, 1, 6, 0]))) := rfl
set_option maxRecDepth 100000 in
theorem ce84 (D : va_G) (cA : Nat → ClassId) (adX adM adK adV : Nat → Nat) (ax b : Nat) : (bX11 cA adX)[122]? = some (st_ad adX adM adK adV ax b [1, 1, 6, 0], aj_e (st_E D cA adX adM adK adV ax b) st_m0 (.inl (9, [1, 1, 6, 0]))) := rfl
set_option maxRecDepth 100000 in
theorem ce85 (D : va_G) (cA : Nat → ClassId) (adX adM adK adV : Nat → Nat) (ax b : Nat) : (bX11 cA adX)[123]? = some (st_ad adX adM adK adV ax b [0, 1, 1, 6, 0], aj_e (st_E D cA adX adM adK adV ax b) st_m0 (.inr (0, 12, [0, 1, 1, 6, 0]))) := rfl
set_option maxRecDepth 100000 in
theorem ce87 (D : va_G) (cA : Nat → ClassId) (adX adM adK adV : Nat → Nat) (ax b : Nat) : (bX11 cA adX)[124]? = some (st_ad adX adM adK adV ax b [0, 7, 0], aj_e (st_E D cA adX adM adK adV ax b) st_m0 (.inl (10, [0, 7, 0]))) := rfl
set_option maxRecDepth 100000 in
theorem ce88 (D : va_G) (cA : Nat → ClassId) (adX adM adK adV : Nat → Nat) (ax b : Nat) : (bX11 cA adX)[125]? = some (st_ad adX adM adK adV ax b [0, 0, 7, 0], aj_e (st_E D cA adX adM adK adV ax b) st_m0 (.inr (3, 40, [0, 0, 7, 0]))) := rfl
set_option maxRecDepth 100000 in
theorem ce89 (D : va_G) (cA : Nat → ClassId) (adX adM adK adV : Nat → Nat) (ax b : Nat) : (bX11 cA adX)[126]? = some (st_ad adX adM adK adV ax b [1, 7, 0], aj_e (st_E D cA adX adM adK adV ax b) st_m0 (.inl (10, [1, 7, 0]))) := rfl
set_option maxRecDepth 100000 in
theorem ce90 (D : va_G) (cA : Nat → ClassId) (adX adM adK adV : Nat → Nat) (ax b : Nat) : (bX11 cA adX)[127]? = some (st_ad adX adM adK adV ax b [0, 1, 7, 0], aj_e (st_E D cA adX adM adK adV ax b) st_m0 (.inr (3, 40, [0, 1, 7, 0]))) := rfl
set_option maxRecDepth 100000 in
theorem ce91 (D : va_G) (cA : Nat → ClassId) (adX adM adK adV : Nat → Nat) (ax b : Nat) : (bX11 cA adX)[128]? = some (st_ad adX adM adK adV ax b [2, 7, 0], aj_e (st_E D cA adX adM adK adV ax b) st_m0 (.inl (10, [2, 7, 0]))) := rfl
set_option maxRecDepth 100000 in
theorem ce92 (D : va_G) (cA : Nat → ClassId) (adX adM adK adV : Nat → Nat) (ax b : Nat) : (bX11 cA adX)[129]? = some (st_ad adX adM adK adV ax b [0, 2, 7, 0], aj_e (st_E D cA adX adM adK adV ax b) st_m0 (.inr (3, 40, [0, 2, 7, 0]))) := rfl
set_option maxRecDepth 100000 in
theorem ce93 (D : va_G) (cA : Nat → ClassId) (adX adM adK adV : Nat → Nat) (ax b : Nat) : (bX11 cA adX)[130]? = some (st_ad adX adM adK adV ax b [3, 7, 0], aj_e (st_E D cA adX adM adK adV ax b) st_m0 (.inl (10, [3, 7, 0]))) := rfl
set_option maxRecDepth 100000 in
theorem ce94 (D : va_G) (cA : Nat → ClassId) (adX adM adK adV : Nat → Nat) (ax b : Nat) : (bX11 cA adX)[131]? = some (st_ad adX adM adK adV ax b [0, 3, 7, 0], aj_e (st_E D cA adX adM adK adV ax b) st_m0 (.inr (3, 40, [0, 3, 7, 0]))) := rfl
set_option maxRecDepth 100000 in
theorem ce95 (D : va_G) (cA : Nat → ClassId) (adX adM adK adV : Nat → Nat) (ax b : Nat) : (bX11 cA adX)[57]? = some (st_ad adX adM adK adV ax b [8, 0], aj_e (st_E D cA adX adM adK adV ax b) st_m0 (.inl (8, [8, 0]))) := rfl
set_option maxRecDepth 100000 in
theorem ce96 (D : va_G) (cA : Nat → ClassId) (adX adM adK adV : Nat → Nat) (ax b : Nat) : (bX11 cA adX)[58]? = some (st_ad adX adM adK adV ax b [2, 8, 0], aj_e (st_E D cA adX adM adK adV ax b) st_m0 (.inr (0, 60, [2, 8, 0]))) := rfl
set_option maxRecDepth 100000 in
theorem ce97 (D : va_G) (cA : Nat → ClassId) (adX adM adK adV : Nat → Nat) (ax b : Nat) : (bX11 cA adX)[59]? = some (st_ad adX adM adK adV ax b [3, 8, 0], aj_e (st_E D cA adX adM adK adV ax b) st_m0 (.inl (5, [3, 8, 0]))) := rfl
set_option maxRecDepth 100000 in
theorem ce98 (D : va_G) (cA : Nat → ClassId) (adX adM adK adV : Nat → Nat) (ax b : Nat) : (bX11 cA adX)[60]? = some (st_ad adX adM adK adV ax b [2, 3, 8, 0], aj_e (st_E D cA adX adM adK adV ax b) st_m0 (.inr (0, 144, [2, 3, 8, 0]))) := rfl
set_option maxRecDepth 100000 in
theorem ce99 (D : va_G) (cA : Nat → ClassId) (adX adM adK adV : Nat → Nat) (ax b : Nat) : (bX11 cA adX)[61]? = some (st_ad adX adM adK adV ax b [3, 3, 8, 0], aj_e (st_E D cA adX adM adK adV ax b) st_m0 (.inr (0, 144, [3, 3, 8, 0]))) := rfl
set_option maxRecDepth 100000 in
theorem ce100 (D : va_G) (cA : Nat → ClassId) (adX adM adK adV : Nat → Nat) (ax b : Nat) : (bX11 cA adX)[62]? = some (st_ad adX adM adK adV ax b [4, 3, 8, 0], aj_e (st_E D cA adX adM adK adV ax b) st_m0 (.inr (0, 144, [4, 3, 8, 0]))) := rfl
set_option maxRecDepth 100000 in
theorem ce101 (D : va_G) (cA : Nat → ClassId) (adX adM adK adV : Nat → Nat) (ax b : Nat) : (bX11 cA adX)[63]? = some (st_ad adX adM adK adV ax b [5, 3, 8, 0], aj_e (st_E D cA adX adM adK adV ax b) st_m0 (.inr (0, 144, [5, 3, 8, 0]))) := rfl
set_option maxRecDepth 100000 in
theorem ce102 (D : va_G) (cA : Nat → ClassId) (adX adM adK adV : Nat → Nat) (ax b : Nat) : (bX11 cA adX)[64]? = some (st_ad adX adM adK adV ax b [6, 3, 8, 0], aj_e (st_E D cA adX adM adK adV ax b) st_m0 (.inr (0, 144, [6, 3, 8, 0]))) := rfl
set_option maxRecDepth 100000 in
theorem ce103 (D : va_G) (cA : Nat → ClassId) (adX adM adK adV : Nat → Nat) (ax b : Nat) : (bX11 cA adX)[65]? = some (st_ad adX adM adK adV ax b [8, 3, 8, 0], aj_e (st_E D cA adX adM adK adV ax b) st_m0 (.inr (0, 62, [8, 3, 8, 0]))) := rfl
set_option maxRecDepth 100000 in
theorem ce104 (D : va_G) (cA : Nat → ClassId) (adX adM adK adV : Nat → Nat) (ax b : Nat) : (bX11 cA adX)[66]? = some (st_ad adX adM adK adV ax b [9, 3, 8, 0], aj_e (st_E D cA adX adM adK adV ax b) st_m0 (.inr (0, 288, [9, 3, 8, 0]))) := rfl
set_option maxRecDepth 100000 in
theorem ce105 (D : va_G) (cA : Nat → ClassId) (adX adM adK adV : Nat → Nat) (ax b : Nat) : (bX11 cA adX)[67]? = some (st_ad adX adM adK adV ax b [10, 3, 8, 0], aj_e (st_E D cA adX adM adK adV ax b) st_m0 (.inr (0, 60, [10, 3, 8, 0]))) := rfl
set_option maxRecDepth 100000 in
theorem ce106 (D : va_G) (cA : Nat → ClassId) (adX adM adK adV : Nat → Nat) (ax b : Nat) : (bX11 cA adX)[68]? = some (st_ad adX adM adK adV ax b [11, 3, 8, 0], aj_e (st_E D cA adX adM adK adV ax b) st_m0 (.inr (0, 60, [11, 3, 8, 0]))) := rfl
set_option maxRecDepth 100000 in
theorem ce107 (D : va_G) (cA : Nat → ClassId) (adX adM adK adV : Nat → Nat) (ax b : Nat) : (bX11 cA adX)[69]? = some (st_ad adX adM adK adV ax b [12, 3, 8, 0], aj_e (st_E D cA adX adM adK adV ax b) st_m0 (.inr (0, 60, [12, 3, 8, 0]))) := rfl
set_option maxRecDepth 100000 in
theorem ce108 (D : va_G) (cA : Nat → ClassId) (adX adM adK adV : Nat → Nat) (ax b : Nat) : (bX11 cA adX)[70]? = some (st_ad adX adM adK adV ax b [13, 3, 8, 0], aj_e (st_E D cA adX adM adK adV ax b) st_m0 (.inr (0, 60, [13, 3, 8, 0]))) := rfl
set_option maxRecDepth 100000 in
theorem ce109 (D : va_G) (cA : Nat → ClassId) (adX adM adK adV : Nat → Nat) (ax b : Nat) : (bX11 cA adX)[71]? = some (st_ad adX adM adK adV ax b [14, 3, 8, 0], aj_e (st_E D cA adX adM adK adV ax b) st_m0 (.inr (0, 60, [14, 3, 8, 0]))) := rfl
set_option maxRecDepth 100000 in
theorem ce110 (D : va_G) (cA : Nat → ClassId) (adX adM adK adV : Nat → Nat) (ax b : Nat) : (bX11 cA adX)[72]? = some (st_ad adX adM adK adV ax b [4, 8, 0], aj_e (st_E D cA adX adM adK adV ax b) st_m0 (.inr (0, 3600, [4, 8, 0]))) := rfl
set_option maxRecDepth 100000 in
theorem ce111 (D : va_G) (cA : Nat → ClassId) (adX adM adK adV : Nat → Nat) (ax b : Nat) : (bX11 cA adX)[73]? = some (st_ad adX adM adK adV ax b [5, 8, 0], aj_e (st_E D cA adX adM adK adV ax b) st_m0 (.inr (0, 3600, [5, 8, 0]))) := rfl
set_option maxRecDepth 100000 in
theorem ce112 (D : va_G) (cA : Nat → ClassId) (adX adM adK adV : Nat → Nat) (ax b : Nat) : (bX11 cA adX)[74]? = some (st_ad adX adM adK adV ax b [6, 8, 0], aj_e (st_E D cA adX adM adK adV ax b) st_m0 (.inr (0, 60, [6, 8, 0]))) := rfl
set_option maxRecDepth 100000 in
theorem ce113 (D : va_G) (cA : Nat → ClassId) (adX adM adK adV : Nat → Nat) (ax b : Nat) : (bX11 cA adX)[75]? = some (st_ad adX adM adK adV ax b [7, 8, 0], aj_e (st_E D cA adX adM adK adV ax b) st_m0 (.inr (0, 60, [7, 8, 0]))) := rfl
set_option maxRecDepth 100000 in
theorem ce114 (D : va_G) (cA : Nat → ClassId) (adX adM adK adV : Nat → Nat) (ax b : Nat) : (bX11 cA adX)[76]? = some (st_ad adX adM adK adV ax b [8, 8, 0], aj_e (st_E D cA adX adM adK adV ax b) st_m0 (.inr (0, 6, [8, 8, 0]))) := rfl
set_option maxRecDepth 100000 in
theorem ce115 (D : va_G) (cA : Nat → ClassId) (adX adM adK adV : Nat → Nat) (ax b : Nat) : (bX11 cA adX)[77]? = some (st_ad adX adM adK adV ax b [9, 0], aj_e (st_E D cA adX adM adK adV ax b) st_m0 (.inl (5, [9, 0]))) := rfl
set_option maxRecDepth 100000 in
theorem ce116 (D : va_G) (cA : Nat → ClassId) (adX adM adK adV : Nat → Nat) (ax b : Nat) : (bX11 cA adX)[78]? = some (st_ad adX adM adK adV ax b [2, 9, 0], aj_e (st_E D cA adX adM adK adV ax b) st_m0 (.inr (0, 144, [2, 9, 0]))) := rfl
set_option maxRecDepth 100000 in
theorem ce117 (D : va_G) (cA : Nat → ClassId) (adX adM adK adV : Nat → Nat) (ax b : Nat) : (bX11 cA adX)[79]? = some (st_ad adX adM adK adV ax b [3, 9, 0], aj_e (st_E D cA adX adM adK adV ax b) st_m0 (.inr (0, 144, [3, 9, 0]))) := rfl
set_option maxRecDepth 100000 in
theorem ce118 (D : va_G) (cA : Nat → ClassId) (adX adM adK adV : Nat → Nat) (ax b : Nat) : (bX11 cA adX)[80]? = some (st_ad adX adM adK adV ax b [4, 9, 0], aj_e (st_E D cA adX adM adK adV ax b) st_m0 (.inr (0, 144, [4, 9, 0]))) := rfl
set_option maxRecDepth 100000 in
theorem ce119 (D : va_G) (cA : Nat → ClassId) (adX adM adK adV : Nat → Nat) (ax b : Nat) : (bX11 cA adX)[81]? = some (st_ad adX adM adK adV ax b [5, 9, 0], aj_e (st_E D cA adX adM adK adV ax b) st_m0 (.inr (0, 144, [5, 9, 0]))) := rfl
set_option maxRecDepth 100000 in
theorem ce120 (D : va_G) (cA : Nat → ClassId) (adX adM adK adV : Nat → Nat) (ax b : Nat) : (bX11 cA adX)[82]? = some (st_ad adX adM adK adV ax b [6, 9, 0], aj_e (st_E D cA adX adM adK adV ax b) st_m0 (.inr (0, 144, [6, 9, 0]))) := rfl
set_option maxRecDepth 100000 in
theorem ce121 (D : va_G) (cA : Nat → ClassId) (adX adM adK adV : Nat → Nat) (ax b : Nat) : (bX11 cA adX)[83]? = some (st_ad adX adM adK adV ax b [8, 9, 0], aj_e (st_E D cA adX adM adK adV ax b) st_m0 (.inr (0, 62, [8, 9, 0]))) := rfl
set_option maxRecDepth 100000 in
theorem ce122 (D : va_G) (cA : Nat → ClassId) (adX adM adK adV : Nat → Nat) (ax b : Nat) : (bX11 cA adX)[84]? = some (st_ad adX adM adK adV ax b [9, 9, 0], aj_e (st_E D cA adX adM adK adV ax b) st_m0 (.inr (0, 288, [9, 9, 0]))) := rfl
set_option maxRecDepth 100000 in
theorem ce123 (D : va_G) (cA : Nat → ClassId) (adX adM adK adV : Nat → Nat) (ax b : Nat) : (bX11 cA adX)[85]? = some (st_ad adX adM adK adV ax b [10, 9, 0], aj_e (st_E D cA adX adM adK adV ax b) st_m0 (.inr (0, 60, [10, 9, 0]))) := rfl
set_option maxRecDepth 100000 in
theorem ce124 (D : va_G) (cA : Nat → ClassId) (adX adM adK adV : Nat → Nat) (ax b : Nat) : (bX11 cA adX)[86]? = some (st_ad adX adM adK adV ax b [11, 9, 0], aj_e (st_E D cA adX adM adK adV ax b) st_m0 (.inr (0, 60, [11, 9, 0]))) := rfl
set_option maxRecDepth 100000 in
theorem ce125 (D : va_G) (cA : Nat → ClassId) (adX adM adK adV : Nat → Nat) (ax b : Nat) : (bX11 cA adX)[87]? = some (st_ad adX adM adK adV ax b [12, 9, 0], aj_e (st_E D cA adX adM adK adV ax b) st_m0 (.inr (0, 60, [12, 9, 0]))) := rfl
set_option maxRecDepth 100000 in
theorem ce126 (D : va_G) (cA : Nat → ClassId) (adX adM adK adV : Nat → Nat) (ax b : Nat) : (bX11 cA adX)[88]? = some (st_ad adX adM adK adV ax b [13, 9, 0], aj_e (st_E D cA adX adM adK adV ax b) st_m0 (.inr (0, 60, [13, 9, 0]))) := rfl
set_option maxRecDepth 100000 in
theorem ce127 (D : va_G) (cA : Nat → ClassId) (adX adM adK adV : Nat → Nat) (ax b : Nat) : (bX11 cA adX)[89]? = some (st_ad adX adM adK adV ax b [14, 9, 0], aj_e (st_E D cA adX adM adK adV ax b) st_m0 (.inr (0, 60, [14, 9, 0]))) := rfl
set_option maxRecDepth 100000 in
theorem ce128 (D : va_G) (cA : Nat → ClassId) (adX adM adK adV : Nat → Nat) (ax b : Nat) : (bX11 cA adX)[90]? = some (st_ad adX adM adK adV ax b [10, 0], aj_e (st_E D cA adX adM adK adV ax b) st_m0 (.inl (2, [10, 0]))) := rfl
set_option maxRecDepth 100000 in
theorem ce129 (D : va_G) (cA : Nat → ClassId) (adX adM adK adV : Nat → Nat) (ax b : Nat) : (bX11 cA adX)[91]? = some (st_ad adX adM adK adV ax b [6, 10, 0], aj_e (st_E D cA adX adM adK adV ax b) st_m0 (.inr (0, 14, [6, 10, 0]))) := rfl
set_option maxRecDepth 100000 in
theorem ce130 (D : va_G) (cA : Nat → ClassId) (adX adM adK adV : Nat → Nat) (ax b : Nat) : (bX11 cA adX)[92]? = some (st_ad adX adM adK adV ax b [7, 10, 0], aj_e (st_E D cA adX adM adK adV ax b) st_m0 (.inr (0, 14, [7, 10, 0]))) := rfl
set_option maxRecDepth 100000 in
theorem ce131 (D : va_G) (cA : Nat → ClassId) (adX adM adK adV : Nat → Nat) (ax b : Nat) : (bX11 cA adX)[93]? = some (st_ad adX adM adK adV ax b [11, 0], aj_e (st_E D cA adX adM adK adV ax b) st_m0 (.inr (0, 10, [11, 0]))) := rfl
set_option maxRecDepth 100000 in
theorem ce132 (D : va_G) (cA : Nat → ClassId) (adX adM adK adV : Nat → Nat) (ax b : Nat) : (bX12 cA adM)[0]? = some (st_ad adX adM adK adV ax b [1], aj_e (st_E D cA adX adM adK adV ax b) st_m0 (.inl (12, [1]))) := rfl
set_option maxRecDepth 100000 in
theorem ce133 (D : va_G) (cA : Nat → ClassId) (adX adM adK adV : Nat → Nat) (ax b : Nat) : (bX12 cA adM)[23]? = some (st_ad adX adM adK adV ax b [1, 1], aj_e (st_E D cA adX adM adK adV ax b) st_m0 (.inr (0, 3315, [1, 1]))) := by
  show some (_, Sum.inl (_, _, Sum.inl _)) = some (_, Sum.inl (_, _, Sum.inl _))
  congr 5
  refine congrArg Sum.inl (funext fun k => ?_)
  show _ = Int32.ofInt (st_rd [1, 1] k st_ex)
  simp [st_rd, st_ex, aj_leq, pl_g]
  repeat' split
  all_goals first | rfl | omega | simp_all
set_option maxRecDepth 100000 in
theorem ce134 (D : va_G) (cA : Nat → ClassId) (adX adM adK adV : Nat → Nat) (ax b : Nat) : (bX12 cA adM)[1]? = some (st_ad adX adM adK adV ax b [2, 1], aj_e (st_E D cA adX adM adK adV ax b) st_m0 (.inr (1, 2, [2, 1]))) := rfl
set_option maxRecDepth 100000 in
theorem ce135 (D : va_G) (cA : Nat → ClassId) (adX adM adK adV : Nat → Nat) (ax b : Nat) : (bX12 cA adM)[2]? = some (st_ad adX adM adK adV ax b [3, 1], aj_e (st_E D cA adX adM adK adV ax b) st_m0 (.inr (0, 900, [3, 1]))) := rfl
set_option maxRecDepth 100000 in
theorem ce136 (D : va_G) (cA : Nat → ClassId) (adX adM adK adV : Nat → Nat) (ax b : Nat) : (bX12 cA adM)[3]? = some (st_ad adX adM adK adV ax b [4, 1], aj_e (st_E D cA adX adM adK adV ax b) st_m0 (.inr (0, 1105, [4, 1]))) := rfl
set_option maxRecDepth 100000 in
theorem ce137 (D : va_G) (cA : Nat → ClassId) (adX adM adK adV : Nat → Nat) (ax b : Nat) : (bX12 cA adM)[4]? = some (st_ad adX adM adK adV ax b [16, 1], aj_e (st_E D cA adX adM adK adV ax b) st_m0 (.inr (0, 900, [16, 1]))) := rfl
set_option maxRecDepth 100000 in
theorem ce138 (D : va_G) (cA : Nat → ClassId) (adX adM adK adV : Nat → Nat) (ax b : Nat) : (bX12 cA adM)[5]? = some (st_ad adX adM adK adV ax b [17, 1], aj_e (st_E D cA adX adM adK adV ax b) st_m0 (.inr (0, 5, [17, 1]))) := rfl
set_option maxRecDepth 100000 in
theorem ce139 (D : va_G) (cA : Nat → ClassId) (adX adM adK adV : Nat → Nat) (ax b : Nat) : (bX12 cA adM)[6]? = some (st_ad adX adM adK adV ax b [18, 1], aj_e (st_E D cA adX adM adK adV ax b) st_m0 (.inr (0, 144, [18, 1]))) := rfl
set_option maxRecDepth 100000 in
theorem ce140 (D : va_G) (cA : Nat → ClassId) (adX adM adK adV : Nat → Nat) (ax b : Nat) : (bX12 cA adM)[7]? = some (st_ad adX adM adK adV ax b [19, 1], aj_e (st_E D cA adX adM adK adV ax b) st_m0 (.inr (0, 144, [19, 1]))) := rfl
set_option maxRecDepth 100000 in
theorem ce141 (D : va_G) (cA : Nat → ClassId) (adX adM adK adV : Nat → Nat) (ax b : Nat) : (bX12 cA adM)[8]? = some (st_ad adX adM adK adV ax b [20, 1], aj_e (st_E D cA adX adM adK adV ax b) st_m0 (.inr (0, 144, [20, 1]))) := rfl
set_option maxRecDepth 100000 in
theorem ce142 (D : va_G) (cA : Nat → ClassId) (adX adM adK adV : Nat → Nat) (ax b : Nat) : (bX12 cA adM)[9]? = some (st_ad adX adM adK adV ax b [21, 1], aj_e (st_E D cA adX adM adK adV ax b) st_m0 (.inr (0, 3600, [21, 1]))) := rfl
set_option maxRecDepth 100000 in
theorem ce143 (D : va_G) (cA : Nat → ClassId) (adX adM adK adV : Nat → Nat) (ax b : Nat) : (bX12 cA adM)[10]? = some (st_ad adX adM adK adV ax b [24, 1], aj_e (st_E D cA adX adM adK adV ax b) st_m0 (.inr (0, 60, [24, 1]))) := rfl
set_option maxRecDepth 100000 in
theorem ce144 (D : va_G) (cA : Nat → ClassId) (adX adM adK adV : Nat → Nat) (ax b : Nat) : (bX12 cA adM)[11]? = some (st_ad adX adM adK adV ax b [25, 1], aj_e (st_E D cA adX adM adK adV ax b) st_m0 (.inr (0, 60, [25, 1]))) := rfl
set_option maxRecDepth 100000 in
theorem ce145 (D : va_G) (cA : Nat → ClassId) (adX adM adK adV : Nat → Nat) (ax b : Nat) : (bX12 cA adM)[12]? = some (st_ad adX adM adK adV ax b [26, 1], aj_e (st_E D cA adX adM adK adV ax b) st_m0 (.inr (0, 60, [26, 1]))) := rfl
set_option maxRecDepth 100000 in
theorem ce146 (D : va_G) (cA : Nat → ClassId) (adX adM adK adV : Nat → Nat) (ax b : Nat) : (bX12 cA adM)[13]? = some (st_ad adX adM adK adV ax b [27, 1], aj_e (st_E D cA adX adM adK adV ax b) st_m0 (.inr (0, 14, [27, 1]))) := rfl
set_option maxRecDepth 100000 in
theorem ce147 (D : va_G) (cA : Nat → ClassId) (adX adM adK adV : Nat → Nat) (ax b : Nat) : (bX12 cA adM)[14]? = some (st_ad adX adM adK adV ax b [30, 1], aj_e (st_E D cA adX adM adK adV ax b) st_m0 (.inr (0, 60, [30, 1]))) := rfl
set_option maxRecDepth 100000 in
theorem ce148 (D : va_G) (cA : Nat → ClassId) (adX adM adK adV : Nat → Nat) (ax b : Nat) : (bX12 cA adM)[15]? = some (st_ad adX adM adK adV ax b [31, 1], aj_e (st_E D cA adX adM adK adV ax b) st_m0 (.inr (0, 60, [31, 1]))) := rfl
set_option maxRecDepth 100000 in
theorem ce149 (D : va_G) (cA : Nat → ClassId) (adX adM adK adV : Nat → Nat) (ax b : Nat) : (bX12 cA adM)[16]? = some (st_ad adX adM adK adV ax b [32, 1], aj_e (st_E D cA adX adM adK adV ax b) st_m0 (.inr (1, 60, [32, 1]))) := rfl
set_option maxRecDepth 100000 in
theorem ce150 (D : va_G) (cA : Nat → ClassId) (adX adM adK adV : Nat → Nat) (ax b : Nat) : (bX12 cA adM)[17]? = some (st_ad adX adM adK adV ax b [34, 1], aj_e (st_E D cA adX adM adK adV ax b) st_m0 (.inr (0, 14, [34, 1]))) := rfl
set_option maxRecDepth 100000 in
theorem ce151 (D : va_G) (cA : Nat → ClassId) (adX adM adK adV : Nat → Nat) (ax b : Nat) : (bX12 cA adM)[18]? = some (st_ad adX adM adK adV ax b [35, 1], aj_e (st_E D cA adX adM adK adV ax b) st_m0 (.inr (0, 14, [35, 1]))) := rfl
set_option maxRecDepth 100000 in
theorem ce152 (D : va_G) (cA : Nat → ClassId) (adX adM adK adV : Nat → Nat) (ax b : Nat) : (bX12 cA adM)[19]? = some (st_ad adX adM adK adV ax b [41, 1], aj_e (st_E D cA adX adM adK adV ax b) st_m0 (.inr (0, 10, [41, 1]))) := rfl
set_option maxRecDepth 100000 in
theorem ce153 (D : va_G) (cA : Nat → ClassId) (adX adM adK adV : Nat → Nat) (ax b : Nat) : (bX12 cA adM)[20]? = some (st_ad adX adM adK adV ax b [44, 1], aj_e (st_E D cA adX adM adK adV ax b) st_m0 (.inr (0, 4, [44, 1]))) := by
  show some (_, Sum.inl (_, _, Sum.inl _)) = some (_, Sum.inl (_, _, Sum.inl _))
  congr 5
  refine congrArg Sum.inl (funext fun k => ?_)
  show _ = Int32.ofInt (st_rd [44, 1] k st_ex)
  simp [st_rd, st_ex, aj_leq, pl_g]
  repeat' split
  all_goals first | rfl | omega | simp_all
set_option maxRecDepth 100000 in
theorem ce154 (D : va_G) (cA : Nat → ClassId) (adX adM adK adV : Nat → Nat) (ax b : Nat) : (bX12 cA adM)[21]? = some (st_ad adX adM adK adV ax b [45, 1], aj_e (st_E D cA adX adM adK adV ax b) st_m0 (.inr (0, 4, [45, 1]))) := rfl
set_option maxRecDepth 100000 in
theorem ce155 (D : va_G) (cA : Nat → ClassId) (adX adM adK adV : Nat → Nat) (ax b : Nat) : (bX12 cA adM)[22]? = some (st_ad adX adM adK adV ax b [46, 1], aj_e (st_E D cA adX adM adK adV ax b) st_m0 (.inr (3, 160, [46, 1]))) := rfl
