set_option maxHeartbeats 4000000 in
set_option maxRecDepth 100000 in
theorem arrV_ext {c N : Nat} {f g : Nat → Value} (h : ∀ j, j < N → f j = g j) : arrV c N f = arrV c N g := by
  have e : (fun j : Fin N => f j.val) = fun j : Fin N => g j.val := funext fun j => h j.val j.isLt
  simp only [arrV, e]
set_option maxHeartbeats 4000000 in
set_option maxRecDepth 100000 in
theorem cr_ext {c : ClassId} {n : Nat} {f g : Nat → Option Nat} (h : ∀ j, j < n → f j = g j) : vp_cell c (n, .inr (.inr (.inr (.inr f)))) = vp_cell c (n, .inr (.inr (.inr (.inr g)))) := by
  rw [vp_cell_q, vp_cell_q]
  exact arrV_ext (fun j hj => by rw [h j hj])
set_option maxHeartbeats 4000000 in
set_option maxRecDepth 100000 in
theorem cr34 (D : va_G) (cA : Nat → ClassId) (adX adM adK adV : Nat → Nat) (ax b : Nat) {H : Heap} (hX : va_P D vwCl (bX11 cA adX) H) : va_at D vwCl (st_ad adX adM adK adV ax b [0, 5, 0], aj_e (st_E D cA adX adM adK adV ax b) st_m0 (.inr (4, 10, [0, 5, 0]))) H := by
  have h1 := hX 34 _ rfl
  refine Eq.trans h1 (congrArg some ?_)
  show vp_cell (cA 4) (10, .inr (.inr (.inr (.inr _)))) = vp_cell (cA 4) (10, .inr (.inr (.inr (.inr (fun j => some (st_ad adX adM adK adV ax b (j :: [0, 5, 0])))))))
  refine cr_ext (fun j hj => ?_)
  match j, hj with
  | 0, _ => rfl
  | 1, _ => rfl
  | 2, _ => rfl
  | 3, _ => rfl
  | 4, _ => rfl
  | 5, _ => rfl
  | 6, _ => rfl
  | 7, _ => rfl
  | 8, _ => rfl
  | 9, _ => rfl
set_option maxHeartbeats 4000000 in
set_option maxRecDepth 100000 in
theorem cr55 (D : va_G) (cA : Nat → ClassId) (adX adM adK adV : Nat → Nat) (ax b : Nat) {H : Heap} (hX : va_P D vwCl (bX11 cA adX) H) : va_at D vwCl (st_ad adX adM adK adV ax b [6, 0], aj_e (st_E D cA adX adM adK adV ax b) st_m0 (.inr (5, 2, [6, 0]))) H := by
  have h1 := hX 55 _ rfl
  refine Eq.trans h1 (congrArg some ?_)
  show vp_cell (cA 5) (2, .inr (.inr (.inr (.inr _)))) = vp_cell (cA 5) (2, .inr (.inr (.inr (.inr (fun j => some (st_ad adX adM adK adV ax b (j :: [6, 0])))))))
  refine cr_ext (fun j hj => ?_)
  match j, hj with
  | 0, _ => rfl
  | 1, _ => rfl
set_option maxHeartbeats 4000000 in
set_option maxRecDepth 100000 in
theorem cr86 (D : va_G) (cA : Nat → ClassId) (adX adM adK adV : Nat → Nat) (ax b : Nat) {H : Heap} (hX : va_P D vwCl (bX11 cA adX) H) : va_at D vwCl (st_ad adX adM adK adV ax b [7, 0], aj_e (st_E D cA adX adM adK adV ax b) st_m0 (.inr (6, 4, [7, 0]))) H := by
  have h1 := hX 56 _ rfl
  refine Eq.trans h1 (congrArg some ?_)
  show vp_cell (cA 6) (4, .inr (.inr (.inr (.inr _)))) = vp_cell (cA 6) (4, .inr (.inr (.inr (.inr (fun j => some (st_ad adX adM adK adV ax b (j :: [7, 0])))))))
  refine cr_ext (fun j hj => ?_)
  match j, hj with
  | 0, _ => rfl
  | 1, _ => rfl
  | 2, _ => rfl
  | 3, _ => rfl
def st_c0 : List aj_R := [.inl (11, [0]), .inl (7, [0, 0]), .inr (2, 900, [0, 0, 0]), .inl (6, [3, 0, 0]), .inl (0, [0, 3, 0, 0]), .inr (0, 144, [1, 0, 3, 0, 0]), .inr (0, 12, [2, 0, 3, 0, 0]), .inr (0, 12, [3, 0, 3, 0, 0]), .inl (4, [1, 3, 0, 0]), .inr (0, 900, [0, 1, 3, 0, 0]), .inr (0, 64, [6, 1, 3, 0, 0]), .inr (0, 12, [7, 3, 0, 0]), .inr (0, 12, [8, 3, 0, 0]), .inr (0, 12, [9, 3, 0, 0]), .inr (0, 12, [11, 3, 0, 0]), .inl (6, [1, 0]), .inl (0, [0, 1, 0]), .inr (0, 144, [1, 0, 1, 0]), .inr (0, 12, [2, 0, 1, 0]), .inr (0, 12, [3, 0, 1, 0]), .inl (4, [1, 1, 0]), .inr (0, 900, [0, 1, 1, 0]), .inr (0, 64, [6, 1, 1, 0]), .inr (0, 12, [7, 1, 0]), .inr (0, 12, [8, 1, 0]), .inr (0, 12, [9, 1, 0])]
set_option maxHeartbeats 4000000 in
set_option maxRecDepth 100000 in
theorem st_a0 (D : va_G) (cA : Nat → ClassId) (adX adM adK adV : Nat → Nat) (ax b : Nat) {H : Heap} (hX : va_P D vwCl (bX11 cA adX) H) (hM : va_P D vwCl (bX12 cA adM) H) : ∀ r ∈ st_c0, va_at D vwCl (st_ad adX adM adK adV ax b (aj_path r), aj_e (st_E D cA adX adM adK adV ax b) st_m0 r) H := List.forall_mem_cons.mpr ⟨hX 0 _ (ce0 D cA adX adM adK adV ax b), List.forall_mem_cons.mpr ⟨hX 1 _ (ce1 D cA adX adM adK adV ax b), List.forall_mem_cons.mpr ⟨hX 2 _ (ce2 D cA adX adM adK adV ax b), List.forall_mem_cons.mpr ⟨hX 3 _ (ce3 D cA adX adM adK adV ax b), List.forall_mem_cons.mpr ⟨hX 4 _ (ce4 D cA adX adM adK adV ax b), List.forall_mem_cons.mpr ⟨hX 5 _ (ce5 D cA adX adM adK adV ax b), List.forall_mem_cons.mpr ⟨hX 6 _ (ce6 D cA adX adM adK adV ax b), List.forall_mem_cons.mpr ⟨hX 7 _ (ce7 D cA adX adM adK adV ax b), List.forall_mem_cons.mpr ⟨hX 8 _ (ce8 D cA adX adM adK adV ax b), List.forall_mem_cons.mpr ⟨hX 9 _ (ce9 D cA adX adM adK adV ax b), List.forall_mem_cons.mpr ⟨hX 10 _ (ce10 D cA adX adM adK adV ax b), List.forall_mem_cons.mpr ⟨hX 11 _ (ce11 D cA adX adM adK adV ax b), List.forall_mem_cons.mpr ⟨hX 12 _ (ce12 D cA adX adM adK adV ax b), List.forall_mem_cons.mpr ⟨hX 13 _ (ce13 D cA adX adM adK adV ax b), List.forall_mem_cons.mpr ⟨hX 14 _ (ce14 D cA adX adM adK adV ax b), List.forall_mem_cons.mpr ⟨hX 15 _ (ce15 D cA adX adM adK adV ax b), List.forall_mem_cons.mpr ⟨hX 16 _ (ce16 D cA adX adM adK adV ax b), List.forall_mem_cons.mpr ⟨hX 17 _ (ce17 D cA adX adM adK adV ax b), List.forall_mem_cons.mpr ⟨hX 18 _ (ce18 D cA adX adM adK adV ax b), List.forall_mem_cons.mpr ⟨hX 19 _ (ce19 D cA adX adM adK adV ax b), List.forall_mem_cons.mpr ⟨hX 20 _ (ce20 D cA adX adM adK adV ax b), List.forall_mem_cons.mpr ⟨hX 21 _ (ce21 D cA adX adM adK adV ax b), List.forall_mem_cons.mpr ⟨hX 22 _ (ce22 D cA adX adM adK adV ax b), List.forall_mem_cons.mpr ⟨hX 23 _ (ce23 D cA adX adM adK adV ax b), List.forall_mem_cons.mpr ⟨hX 24 _ (ce24 D cA adX adM adK adV ax b), List.forall_mem_cons.mpr ⟨hX 25 _ (ce25 D cA adX adM adK adV ax b), fun _ h => absurd h List.not_mem_nil⟩⟩⟩⟩⟩⟩⟩⟩⟩⟩⟩⟩⟩⟩⟩⟩⟩⟩⟩⟩⟩⟩⟩⟩⟩⟩
def st_c1 : List aj_R := [.inr (0, 12, [11, 1, 0]), .inl (9, [2, 0]), .inr (0, 12, [0, 2, 0]), .inl (9, [3, 0]), .inr (0, 12, [0, 3, 0]), .inl (9, [4, 0]), .inr (0, 12, [0, 4, 0]), .inl (1, [5, 0]), .inr (4, 10, [0, 5, 0]), .inl (9, [0, 0, 5, 0]), .inr (0, 12, [0, 0, 0, 5, 0]), .inl (9, [1, 0, 5, 0]), .inr (0, 12, [0, 1, 0, 5, 0]), .inl (9, [2, 0, 5, 0]), .inr (0, 12, [0, 2, 0, 5, 0]), .inl (9, [3, 0, 5, 0]), .inr (0, 12, [0, 3, 0, 5, 0]), .inl (9, [4, 0, 5, 0]), .inr (0, 12, [0, 4, 0, 5, 0]), .inl (9, [5, 0, 5, 0]), .inr (0, 12, [0, 5, 0, 5, 0]), .inl (9, [6, 0, 5, 0]), .inr (0, 12, [0, 6, 0, 5, 0]), .inl (9, [7, 0, 5, 0]), .inr (0, 12, [0, 7, 0, 5, 0]), .inl (9, [8, 0, 5, 0])]
set_option maxHeartbeats 4000000 in
set_option maxRecDepth 100000 in
theorem st_a1 (D : va_G) (cA : Nat → ClassId) (adX adM adK adV : Nat → Nat) (ax b : Nat) {H : Heap} (hX : va_P D vwCl (bX11 cA adX) H) (hM : va_P D vwCl (bX12 cA adM) H) : ∀ r ∈ st_c1, va_at D vwCl (st_ad adX adM adK adV ax b (aj_path r), aj_e (st_E D cA adX adM adK adV ax b) st_m0 r) H := List.forall_mem_cons.mpr ⟨hX 26 _ (ce26 D cA adX adM adK adV ax b), List.forall_mem_cons.mpr ⟨hX 27 _ (ce27 D cA adX adM adK adV ax b), List.forall_mem_cons.mpr ⟨hX 28 _ (ce28 D cA adX adM adK adV ax b), List.forall_mem_cons.mpr ⟨hX 29 _ (ce29 D cA adX adM adK adV ax b), List.forall_mem_cons.mpr ⟨hX 30 _ (ce30 D cA adX adM adK adV ax b), List.forall_mem_cons.mpr ⟨hX 31 _ (ce31 D cA adX adM adK adV ax b), List.forall_mem_cons.mpr ⟨hX 32 _ (ce32 D cA adX adM adK adV ax b), List.forall_mem_cons.mpr ⟨hX 33 _ (ce33 D cA adX adM adK adV ax b), List.forall_mem_cons.mpr ⟨cr34 D cA adX adM adK adV ax b hX, List.forall_mem_cons.mpr ⟨hX 35 _ (ce35 D cA adX adM adK adV ax b), List.forall_mem_cons.mpr ⟨hX 36 _ (ce36 D cA adX adM adK adV ax b), List.forall_mem_cons.mpr ⟨hX 37 _ (ce37 D cA adX adM adK adV ax b), List.forall_mem_cons.mpr ⟨hX 38 _ (ce38 D cA adX adM adK adV ax b), List.forall_mem_cons.mpr ⟨hX 39 _ (ce39 D cA adX adM adK adV ax b), List.forall_mem_cons.mpr ⟨hX 40 _ (ce40 D cA adX adM adK adV ax b), List.forall_mem_cons.mpr ⟨hX 41 _ (ce41 D cA adX adM adK adV ax b), List.forall_mem_cons.mpr ⟨hX 42 _ (ce42 D cA adX adM adK adV ax b), List.forall_mem_cons.mpr ⟨hX 43 _ (ce43 D cA adX adM adK adV ax b), List.forall_mem_cons.mpr ⟨hX 44 _ (ce44 D cA adX adM adK adV ax b), List.forall_mem_cons.mpr ⟨hX 45 _ (ce45 D cA adX adM adK adV ax b), List.forall_mem_cons.mpr ⟨hX 46 _ (ce46 D cA adX adM adK adV ax b), List.forall_mem_cons.mpr ⟨hX 47 _ (ce47 D cA adX adM adK adV ax b), List.forall_mem_cons.mpr ⟨hX 48 _ (ce48 D cA adX adM adK adV ax b), List.forall_mem_cons.mpr ⟨hX 49 _ (ce49 D cA adX adM adK adV ax b), List.forall_mem_cons.mpr ⟨hX 50 _ (ce50 D cA adX adM adK adV ax b), List.forall_mem_cons.mpr ⟨hX 51 _ (ce51 D cA adX adM adK adV ax b), fun _ h => absurd h List.not_mem_nil⟩⟩⟩⟩⟩⟩⟩⟩⟩⟩⟩⟩⟩⟩⟩⟩⟩⟩⟩⟩⟩⟩⟩⟩⟩⟩
def st_c2 : List aj_R := [.inr (0, 12, [0, 8, 0, 5, 0]), .inl (9, [9, 0, 5, 0]), .inr (0, 12, [0, 9, 0, 5, 0]), .inr (5, 2, [6, 0]), .inl (3, [0, 6, 0]), .inl (6, [0, 0, 6, 0]), .inl (0, [0, 0, 0, 6, 0]), .inr (0, 144, [1, 0, 0, 0, 6, 0]), .inr (0, 12, [2, 0, 0, 0, 6, 0]), .inr (0, 12, [3, 0, 0, 0, 6, 0]), .inl (4, [1, 0, 0, 6, 0]), .inr (0, 900, [0, 1, 0, 0, 6, 0]), .inr (0, 64, [6, 1, 0, 0, 6, 0]), .inr (0, 12, [7, 0, 0, 6, 0]), .inr (0, 12, [8, 0, 0, 6, 0]), .inr (0, 12, [9, 0, 0, 6, 0]), .inr (0, 12, [11, 0, 0, 6, 0]), .inl (9, [1, 0, 6, 0]), .inr (0, 12, [0, 1, 0, 6, 0]), .inl (3, [1, 6, 0]), .inl (6, [0, 1, 6, 0]), .inl (0, [0, 0, 1, 6, 0]), .inr (0, 144, [1, 0, 0, 1, 6, 0]), .inr (0, 12, [2, 0, 0, 1, 6, 0]), .inr (0, 12, [3, 0, 0, 1, 6, 0]), .inl (4, [1, 0, 1, 6, 0])]
set_option maxHeartbeats 4000000 in
set_option maxRecDepth 100000 in
theorem st_a2 (D : va_G) (cA : Nat → ClassId) (adX adM adK adV : Nat → Nat) (ax b : Nat) {H : Heap} (hX : va_P D vwCl (bX11 cA adX) H) (hM : va_P D vwCl (bX12 cA adM) H) : ∀ r ∈ st_c2, va_at D vwCl (st_ad adX adM adK adV ax b (aj_path r), aj_e (st_E D cA adX adM adK adV ax b) st_m0 r) H := List.forall_mem_cons.mpr ⟨hX 52 _ (ce52 D cA adX adM adK adV ax b), List.forall_mem_cons.mpr ⟨hX 53 _ (ce53 D cA adX adM adK adV ax b), List.forall_mem_cons.mpr ⟨hX 54 _ (ce54 D cA adX adM adK adV ax b), List.forall_mem_cons.mpr ⟨cr55 D cA adX adM adK adV ax b hX, List.forall_mem_cons.mpr ⟨hX 94 _ (ce56 D cA adX adM adK adV ax b), List.forall_mem_cons.mpr ⟨hX 95 _ (ce57 D cA adX adM adK adV ax b), List.forall_mem_cons.mpr ⟨hX 96 _ (ce58 D cA adX adM adK adV ax b), List.forall_mem_cons.mpr ⟨hX 97 _ (ce59 D cA adX adM adK adV ax b), List.forall_mem_cons.mpr ⟨hX 98 _ (ce60 D cA adX adM adK adV ax b), List.forall_mem_cons.mpr ⟨hX 99 _ (ce61 D cA adX adM adK adV ax b), List.forall_mem_cons.mpr ⟨hX 100 _ (ce62 D cA adX adM adK adV ax b), List.forall_mem_cons.mpr ⟨hX 101 _ (ce63 D cA adX adM adK adV ax b), List.forall_mem_cons.mpr ⟨hX 102 _ (ce64 D cA adX adM adK adV ax b), List.forall_mem_cons.mpr ⟨hX 103 _ (ce65 D cA adX adM adK adV ax b), List.forall_mem_cons.mpr ⟨hX 104 _ (ce66 D cA adX adM adK adV ax b), List.forall_mem_cons.mpr ⟨hX 105 _ (ce67 D cA adX adM adK adV ax b), List.forall_mem_cons.mpr ⟨hX 106 _ (ce68 D cA adX adM adK adV ax b), List.forall_mem_cons.mpr ⟨hX 107 _ (ce69 D cA adX adM adK adV ax b), List.forall_mem_cons.mpr ⟨hX 108 _ (ce70 D cA adX adM adK adV ax b), List.forall_mem_cons.mpr ⟨hX 109 _ (ce71 D cA adX adM adK adV ax b), List.forall_mem_cons.mpr ⟨hX 110 _ (ce72 D cA adX adM adK adV ax b), List.forall_mem_cons.mpr ⟨hX 111 _ (ce73 D cA adX adM adK adV ax b), List.forall_mem_cons.mpr ⟨hX 112 _ (ce74 D cA adX adM adK adV ax b), List.forall_mem_cons.mpr ⟨hX 113 _ (ce75 D cA adX adM adK adV ax b), List.forall_mem_cons.mpr ⟨hX 114 _ (ce76 D cA adX adM adK adV ax b), List.forall_mem_cons.mpr ⟨hX 115 _ (ce77 D cA adX adM adK adV ax b), fun _ h => absurd h List.not_mem_nil⟩⟩⟩⟩⟩⟩⟩⟩⟩⟩⟩⟩⟩⟩⟩⟩⟩⟩⟩⟩⟩⟩⟩⟩⟩⟩
def st_c3 : List aj_R := [.inr (0, 900, [0, 1, 0, 1, 6, 0]), .inr (0, 64, [6, 1, 0, 1, 6, 0]), .inr (0, 12, [7, 0, 1, 6, 0]), .inr (0, 12, [8, 0, 1, 6, 0]), .inr (0, 12, [9, 0, 1, 6, 0]), .inr (0, 12, [11, 0, 1, 6, 0]), .inl (9, [1, 1, 6, 0]), .inr (0, 12, [0, 1, 1, 6, 0]), .inr (6, 4, [7, 0]), .inl (10, [0, 7, 0]), .inr (3, 40, [0, 0, 7, 0]), .inl (10, [1, 7, 0]), .inr (3, 40, [0, 1, 7, 0]), .inl (10, [2, 7, 0]), .inr (3, 40, [0, 2, 7, 0]), .inl (10, [3, 7, 0]), .inr (3, 40, [0, 3, 7, 0]), .inl (8, [8, 0]), .inr (0, 60, [2, 8, 0]), .inl (5, [3, 8, 0]), .inr (0, 144, [2, 3, 8, 0]), .inr (0, 144, [3, 3, 8, 0]), .inr (0, 144, [4, 3, 8, 0]), .inr (0, 144, [5, 3, 8, 0]), .inr (0, 144, [6, 3, 8, 0]), .inr (0, 62, [8, 3, 8, 0])]
set_option maxHeartbeats 4000000 in
set_option maxRecDepth 100000 in
theorem st_a3 (D : va_G) (cA : Nat → ClassId) (adX adM adK adV : Nat → Nat) (ax b : Nat) {H : Heap} (hX : va_P D vwCl (bX11 cA adX) H) (hM : va_P D vwCl (bX12 cA adM) H) : ∀ r ∈ st_c3, va_at D vwCl (st_ad adX adM adK adV ax b (aj_path r), aj_e (st_E D cA adX adM adK adV ax b) st_m0 r) H := List.forall_mem_cons.mpr ⟨hX 116 _ (ce78 D cA adX adM adK adV ax b), List.forall_mem_cons.mpr ⟨hX 117 _ (ce79 D cA adX adM adK adV ax b), List.forall_mem_cons.mpr ⟨hX 118 _ (ce80 D cA adX adM adK adV ax b), List.forall_mem_cons.mpr ⟨hX 119 _ (ce81 D cA adX adM adK adV ax b), List.forall_mem_cons.mpr ⟨hX 120 _ (ce82 D cA adX adM adK adV ax b), List.forall_mem_cons.mpr ⟨hX 121 _ (ce83 D cA adX adM adK adV ax b), List.forall_mem_cons.mpr ⟨hX 122 _ (ce84 D cA adX adM adK adV ax b), List.forall_mem_cons.mpr ⟨hX 123 _ (ce85 D cA adX adM adK adV ax b), List.forall_mem_cons.mpr ⟨cr86 D cA adX adM adK adV ax b hX, List.forall_mem_cons.mpr ⟨hX 124 _ (ce87 D cA adX adM adK adV ax b), List.forall_mem_cons.mpr ⟨hX 125 _ (ce88 D cA adX adM adK adV ax b), List.forall_mem_cons.mpr ⟨hX 126 _ (ce89 D cA adX adM adK adV ax b), List.forall_mem_cons.mpr ⟨hX 127 _ (ce90 D cA adX adM adK adV ax b), List.forall_mem_cons.mpr ⟨hX 128 _ (ce91 D cA adX adM adK adV ax b), List.forall_mem_cons.mpr ⟨hX 129 _ (ce92 D cA adX adM adK adV ax b), List.forall_mem_cons.mpr ⟨hX 130 _ (ce93 D cA adX adM adK adV ax b), List.forall_mem_cons.mpr ⟨hX 131 _ (ce94 D cA adX adM adK adV ax b), List.forall_mem_cons.mpr ⟨hX 57 _ (ce95 D cA adX adM adK adV ax b), List.forall_mem_cons.mpr ⟨hX 58 _ (ce96 D cA adX adM adK adV ax b), List.forall_mem_cons.mpr ⟨hX 59 _ (ce97 D cA adX adM adK adV ax b), List.forall_mem_cons.mpr ⟨hX 60 _ (ce98 D cA adX adM adK adV ax b), List.forall_mem_cons.mpr ⟨hX 61 _ (ce99 D cA adX adM adK adV ax b), List.forall_mem_cons.mpr ⟨hX 62 _ (ce100 D cA adX adM adK adV ax b), List.forall_mem_cons.mpr ⟨hX 63 _ (ce101 D cA adX adM adK adV ax b), List.forall_mem_cons.mpr ⟨hX 64 _ (ce102 D cA adX adM adK adV ax b), List.forall_mem_cons.mpr ⟨hX 65 _ (ce103 D cA adX adM adK adV ax b), fun _ h => absurd h List.not_mem_nil⟩⟩⟩⟩⟩⟩⟩⟩⟩⟩⟩⟩⟩⟩⟩⟩⟩⟩⟩⟩⟩⟩⟩⟩⟩⟩
def st_c4 : List aj_R := [.inr (0, 288, [9, 3, 8, 0]), .inr (0, 60, [10, 3, 8, 0]), .inr (0, 60, [11, 3, 8, 0]), .inr (0, 60, [12, 3, 8, 0]), .inr (0, 60, [13, 3, 8, 0]), .inr (0, 60, [14, 3, 8, 0]), .inr (0, 3600, [4, 8, 0]), .inr (0, 3600, [5, 8, 0]), .inr (0, 60, [6, 8, 0]), .inr (0, 60, [7, 8, 0]), .inr (0, 6, [8, 8, 0]), .inl (5, [9, 0]), .inr (0, 144, [2, 9, 0]), .inr (0, 144, [3, 9, 0]), .inr (0, 144, [4, 9, 0]), .inr (0, 144, [5, 9, 0]), .inr (0, 144, [6, 9, 0]), .inr (0, 62, [8, 9, 0]), .inr (0, 288, [9, 9, 0]), .inr (0, 60, [10, 9, 0]), .inr (0, 60, [11, 9, 0]), .inr (0, 60, [12, 9, 0]), .inr (0, 60, [13, 9, 0]), .inr (0, 60, [14, 9, 0]), .inl (2, [10, 0]), .inr (0, 14, [6, 10, 0])]
set_option maxHeartbeats 4000000 in
set_option maxRecDepth 100000 in
theorem st_a4 (D : va_G) (cA : Nat → ClassId) (adX adM adK adV : Nat → Nat) (ax b : Nat) {H : Heap} (hX : va_P D vwCl (bX11 cA adX) H) (hM : va_P D vwCl (bX12 cA adM) H) : ∀ r ∈ st_c4, va_at D vwCl (st_ad adX adM adK adV ax b (aj_path r), aj_e (st_E D cA adX adM adK adV ax b) st_m0 r) H := List.forall_mem_cons.mpr ⟨hX 66 _ (ce104 D cA adX adM adK adV ax b), List.forall_mem_cons.mpr ⟨hX 67 _ (ce105 D cA adX adM adK adV ax b), List.forall_mem_cons.mpr ⟨hX 68 _ (ce106 D cA adX adM adK adV ax b), List.forall_mem_cons.mpr ⟨hX 69 _ (ce107 D cA adX adM adK adV ax b), List.forall_mem_cons.mpr ⟨hX 70 _ (ce108 D cA adX adM adK adV ax b), List.forall_mem_cons.mpr ⟨hX 71 _ (ce109 D cA adX adM adK adV ax b), List.forall_mem_cons.mpr ⟨hX 72 _ (ce110 D cA adX adM adK adV ax b), List.forall_mem_cons.mpr ⟨hX 73 _ (ce111 D cA adX adM adK adV ax b), List.forall_mem_cons.mpr ⟨hX 74 _ (ce112 D cA adX adM adK adV ax b), List.forall_mem_cons.mpr ⟨hX 75 _ (ce113 D cA adX adM adK adV ax b), List.forall_mem_cons.mpr ⟨hX 76 _ (ce114 D cA adX adM adK adV ax b), List.forall_mem_cons.mpr ⟨hX 77 _ (ce115 D cA adX adM adK adV ax b), List.forall_mem_cons.mpr ⟨hX 78 _ (ce116 D cA adX adM adK adV ax b), List.forall_mem_cons.mpr ⟨hX 79 _ (ce117 D cA adX adM adK adV ax b), List.forall_mem_cons.mpr ⟨hX 80 _ (ce118 D cA adX adM adK adV ax b), List.forall_mem_cons.mpr ⟨hX 81 _ (ce119 D cA adX adM adK adV ax b), List.forall_mem_cons.mpr ⟨hX 82 _ (ce120 D cA adX adM adK adV ax b), List.forall_mem_cons.mpr ⟨hX 83 _ (ce121 D cA adX adM adK adV ax b), List.forall_mem_cons.mpr ⟨hX 84 _ (ce122 D cA adX adM adK adV ax b), List.forall_mem_cons.mpr ⟨hX 85 _ (ce123 D cA adX adM adK adV ax b), List.forall_mem_cons.mpr ⟨hX 86 _ (ce124 D cA adX adM adK adV ax b), List.forall_mem_cons.mpr ⟨hX 87 _ (ce125 D cA adX adM adK adV ax b), List.forall_mem_cons.mpr ⟨hX 88 _ (ce126 D cA adX adM adK adV ax b), List.forall_mem_cons.mpr ⟨hX 89 _ (ce127 D cA adX adM adK adV ax b), List.forall_mem_cons.mpr ⟨hX 90 _ (ce128 D cA adX adM adK adV ax b), List.forall_mem_cons.mpr ⟨hX 91 _ (ce129 D cA adX adM adK adV ax b), fun _ h => absurd h List.not_mem_nil⟩⟩⟩⟩⟩⟩⟩⟩⟩⟩⟩⟩⟩⟩⟩⟩⟩⟩⟩⟩⟩⟩⟩⟩⟩⟩
def st_c5 : List aj_R := [.inr (0, 14, [7, 10, 0]), .inr (0, 10, [11, 0]), .inl (12, [1]), .inr (0, 3315, [1, 1]), .inr (1, 2, [2, 1]), .inr (0, 900, [3, 1]), .inr (0, 1105, [4, 1]), .inr (0, 900, [16, 1]), .inr (0, 5, [17, 1]), .inr (0, 144, [18, 1]), .inr (0, 144, [19, 1]), .inr (0, 144, [20, 1]), .inr (0, 3600, [21, 1]), .inr (0, 60, [24, 1]), .inr (0, 60, [25, 1]), .inr (0, 60, [26, 1]), .inr (0, 14, [27, 1]), .inr (0, 60, [30, 1]), .inr (0, 60, [31, 1]), .inr (1, 60, [32, 1]), .inr (0, 14, [34, 1]), .inr (0, 14, [35, 1]), .inr (0, 10, [41, 1]), .inr (0, 4, [44, 1]), .inr (0, 4, [45, 1]), .inr (3, 160, [46, 1])]
set_option maxHeartbeats 4000000 in
set_option maxRecDepth 100000 in
theorem st_a5 (D : va_G) (cA : Nat → ClassId) (adX adM adK adV : Nat → Nat) (ax b : Nat) {H : Heap} (hX : va_P D vwCl (bX11 cA adX) H) (hM : va_P D vwCl (bX12 cA adM) H) : ∀ r ∈ st_c5, va_at D vwCl (st_ad adX adM adK adV ax b (aj_path r), aj_e (st_E D cA adX adM adK adV ax b) st_m0 r) H := List.forall_mem_cons.mpr ⟨hX 92 _ (ce130 D cA adX adM adK adV ax b), List.forall_mem_cons.mpr ⟨hX 93 _ (ce131 D cA adX adM adK adV ax b), List.forall_mem_cons.mpr ⟨hM 0 _ (ce132 D cA adX adM adK adV ax b), List.forall_mem_cons.mpr ⟨hM 23 _ (ce133 D cA adX adM adK adV ax b), List.forall_mem_cons.mpr ⟨hM 1 _ (ce134 D cA adX adM adK adV ax b), List.forall_mem_cons.mpr ⟨hM 2 _ (ce135 D cA adX adM adK adV ax b), List.forall_mem_cons.mpr ⟨hM 3 _ (ce136 D cA adX adM adK adV ax b), List.forall_mem_cons.mpr ⟨hM 4 _ (ce137 D cA adX adM adK adV ax b), List.forall_mem_cons.mpr ⟨hM 5 _ (ce138 D cA adX adM adK adV ax b), List.forall_mem_cons.mpr ⟨hM 6 _ (ce139 D cA adX adM adK adV ax b), List.forall_mem_cons.mpr ⟨hM 7 _ (ce140 D cA adX adM adK adV ax b), List.forall_mem_cons.mpr ⟨hM 8 _ (ce141 D cA adX adM adK adV ax b), List.forall_mem_cons.mpr ⟨hM 9 _ (ce142 D cA adX adM adK adV ax b), List.forall_mem_cons.mpr ⟨hM 10 _ (ce143 D cA adX adM adK adV ax b), List.forall_mem_cons.mpr ⟨hM 11 _ (ce144 D cA adX adM adK adV ax b), List.forall_mem_cons.mpr ⟨hM 12 _ (ce145 D cA adX adM adK adV ax b), List.forall_mem_cons.mpr ⟨hM 13 _ (ce146 D cA adX adM adK adV ax b), List.forall_mem_cons.mpr ⟨hM 14 _ (ce147 D cA adX adM adK adV ax b), List.forall_mem_cons.mpr ⟨hM 15 _ (ce148 D cA adX adM adK adV ax b), List.forall_mem_cons.mpr ⟨hM 16 _ (ce149 D cA adX adM adK adV ax b), List.forall_mem_cons.mpr ⟨hM 17 _ (ce150 D cA adX adM adK adV ax b), List.forall_mem_cons.mpr ⟨hM 18 _ (ce151 D cA adX adM adK adV ax b), List.forall_mem_cons.mpr ⟨hM 19 _ (ce152 D cA adX adM adK adV ax b), List.forall_mem_cons.mpr ⟨hM 20 _ (ce153 D cA adX adM adK adV ax b), List.forall_mem_cons.mpr ⟨hM 21 _ (ce154 D cA adX adM adK adV ax b), List.forall_mem_cons.mpr ⟨hM 22 _ (ce155 D cA adX adM adK adV ax b), fun _ h => absurd h List.not_mem_nil⟩⟩⟩⟩⟩⟩⟩⟩⟩⟩⟩⟩⟩⟩⟩⟩⟩⟩⟩⟩⟩⟩⟩⟩⟩⟩
set_option maxHeartbeats 4000000 in
set_option maxRecDepth 100000 in
theorem st_P (D : va_G) (cA : Nat → ClassId) (adX adM adK adV : Nat → Nat) (ax b : Nat) {H : Heap} (hX : va_P D vwCl (bX11 cA adX) H) (hM : va_P D vwCl (bX12 cA adM) H) : va_P D vwCl (aj_W (st_E D cA adX adM adK adV ax b) st_m0) H := by
  have h : ∀ r ∈ st_c0 ++ (st_c1 ++ (st_c2 ++ (st_c3 ++ (st_c4 ++ (st_c5))))), va_at D vwCl (st_ad adX adM adK adV ax b (aj_path r), aj_e (st_E D cA adX adM adK adV ax b) st_m0 r) H := List.forall_mem_append.mpr ⟨st_a0 D cA adX adM adK adV ax b hX hM, List.forall_mem_append.mpr ⟨st_a1 D cA adX adM adK adV ax b hX hM, List.forall_mem_append.mpr ⟨st_a2 D cA adX adM adK adV ax b hX hM, List.forall_mem_append.mpr ⟨st_a3 D cA adX adM adK adV ax b hX hM, List.forall_mem_append.mpr ⟨st_a4 D cA adX adM adK adV ax b hX hM, st_a5 D cA adX adM adK adV ax b hX hM⟩⟩⟩⟩⟩
  intro k q hq
  obtain ⟨r, hr, rfl⟩ := aj_W_of hq
  exact h r (List.mem_of_getElem? (show (st_c0 ++ (st_c1 ++ (st_c2 ++ (st_c3 ++ (st_c4 ++ (st_c5))))))[k]? = some r from hr))
def st_sg : List Nat := [0, 1, 2, 3, 4, 5, 6, 7, 8, 9, 10, 11, 12, 13, 14, 15, 16, 17, 18, 19, 20, 21, 22, 23, 24, 25, 26, 27, 28, 29, 30, 31, 32, 33, 34, 35, 36, 37, 38, 39, 40, 41, 42, 43, 44, 45, 46, 47, 48, 49, 50, 51, 52, 53, 54, 55, 94, 95, 96, 97, 98, 99, 100, 101, 102, 103, 104, 105, 106, 107, 108, 109, 110, 111, 112, 113, 114, 115, 116, 117, 118, 119, 120, 121, 122, 123, 56, 124, 125, 126, 127, 128, 129, 130, 131, 57, 58, 59, 60, 61, 62, 63, 64, 65, 66, 67, 68, 69, 70, 71, 72, 73, 74, 75, 76, 77, 78, 79, 80, 81, 82, 83, 84, 85, 86, 87, 88, 89, 90, 91, 92, 93, 132, 155, 133, 134, 135, 136, 137, 138, 139, 140, 141, 142, 143, 144, 145, 146, 147, 148, 149, 150, 151, 152, 153, 154]
def st_av (adX adM : Nat → Nat) (i : Nat) : Nat := if i < 132 then adX i else adM (i - 132)
set_option maxHeartbeats 4000000 in
set_option maxRecDepth 100000 in
theorem st_adr (adX adM adK adV : Nat → Nat) (ax b : Nat) : aj_pls.map (fun r => st_ad adX adM adK adV ax b (aj_path r)) = st_sg.map (st_av adX adM) := rfl
set_option maxHeartbeats 4000000 in
set_option maxRecDepth 100000 in
theorem st_wad (cA : Nat → ClassId) (adX adM : Nat → Nat) : (bX11 cA adX ++ bX12 cA adM).map Prod.fst = (List.range 156).map (st_av adX adM) := rfl
set_option maxHeartbeats 4000000 in
set_option maxRecDepth 100000 in
theorem st_sg_nd : st_sg.Nodup := by decide +kernel
set_option maxHeartbeats 4000000 in
set_option maxRecDepth 100000 in
theorem st_sg_lt : ∀ i ∈ st_sg, i < 156 := by decide +kernel
set_option maxHeartbeats 4000000 in
set_option maxRecDepth 100000 in
theorem st_inj {A : Nat → Prop} {cA : Nat → ClassId} {adX adM : Nat → Nat} (hD : va_D A (bX11 cA adX ++ bX12 cA adM)) : ∀ i j, i < 156 → j < 156 → st_av adX adM i = st_av adX adM j → i = j := by
  have at' : ∀ i, i < 156 → ∃ x, (bX11 cA adX ++ bX12 cA adM)[i]? = some x ∧ x.1 = st_av adX adM i := by
    intro i hi
    have h1 : ((bX11 cA adX ++ bX12 cA adM).map Prod.fst)[i]? = some (st_av adX adM i) := by
      rw [st_wad, List.getElem?_map, List.getElem?_range hi]
      rfl
    rw [List.getElem?_map] at h1
    cases hx : (bX11 cA adX ++ bX12 cA adM)[i]? with
    | none => rw [hx] at h1; cases h1
    | some x => rw [hx] at h1; exact ⟨x, rfl, Option.some.inj h1⟩
  intro i j hi hj e
  obtain ⟨x, h1, h2⟩ := at' i hi
  obtain ⟨y, h3, h4⟩ := at' j hj
  exact hD.1 i j x y h1 h3 (by rw [h2, h4, e])
set_option maxHeartbeats 4000000 in
set_option maxRecDepth 100000 in
theorem st_D {A : Nat → Prop} (D : va_G) (cA : Nat → ClassId) (adX adM adK adV : Nat → Nat) (ax b : Nat) (hD : va_D A (bX11 cA adX ++ bX12 cA adM)) : aj_D (st_E D cA adX adM adK adV ax b) := by
  intro i j r r' hi hj e
  have at' : ∀ (i : Nat) (r : aj_R), aj_pls[i]? = some r → ∃ k, st_sg[i]? = some k ∧ st_ad adX adM adK adV ax b (aj_path r) = st_av adX adM k := by
    intro i r hi
    have h1 : (aj_pls.map (fun r => st_ad adX adM adK adV ax b (aj_path r)))[i]? = some (st_ad adX adM adK adV ax b (aj_path r)) := by rw [List.getElem?_map, hi]; rfl
    rw [st_adr, List.getElem?_map] at h1
    cases hx : st_sg[i]? with
    | none => rw [hx] at h1; cases h1
    | some k => rw [hx] at h1; exact ⟨k, rfl, (Option.some.inj h1).symm⟩
  obtain ⟨k, h1, h2⟩ := at' i r hi
  obtain ⟨k', h3, h4⟩ := at' j r' hj
  have e2 : st_av adX adM k = st_av adX adM k' := by rw [← h2, ← h4]; exact e
  have e3 := st_inj hD k k' (st_sg_lt k (List.mem_of_getElem? h1)) (st_sg_lt k' (List.mem_of_getElem? h3)) e2
  subst e3
  exact (List.getElem?_inj (List.getElem?_eq_some_iff.mp h1).1 st_sg_nd).mp (h1.trans h3.symm)
set_option maxHeartbeats 4000000 in
set_option maxRecDepth 100000 in
theorem st_A {A : Nat → Prop} (D : va_G) (cA : Nat → ClassId) (adX adM adK adV : Nat → Nat) (ax b : Nat) (hD : va_D A (bX11 cA adX ++ bX12 cA adM)) : ∀ q, aj_A (st_E D cA adX adM adK adV ax b) q → A q := by
  rintro q ⟨r, hr, rfl⟩
  obtain ⟨i, hi⟩ := List.getElem?_of_mem hr
  have h1 : (aj_pls.map (fun r => st_ad adX adM adK adV ax b (aj_path r)))[i]? = some (st_ad adX adM adK adV ax b (aj_path r)) := by rw [List.getElem?_map, hi]; rfl
  rw [st_adr, List.getElem?_map] at h1
  cases hx : st_sg[i]? with
  | none => rw [hx] at h1; cases h1
  | some k =>
    rw [hx] at h1
    have hk := st_sg_lt k (List.mem_of_getElem? hx)
    have h2 : ((bX11 cA adX ++ bX12 cA adM).map Prod.fst)[k]? = some (st_av adX adM k) := by
      rw [st_wad, List.getElem?_map, List.getElem?_range hk]
      rfl
    rw [List.getElem?_map] at h2
    cases hy : (bX11 cA adX ++ bX12 cA adM)[k]? with
    | none => rw [hy] at h2; cases h2
    | some y =>
      rw [hy] at h2
      have e1 : y.1 = st_av adX adM k := Option.some.inj h2
      have e2 : st_av adX adM k = st_ad adX adM adK adV ax b (aj_path r) := Option.some.inj h1
      have := hD.2 k y hy
      rw [e1, e2] at this
      exact this
