theorem dX0_init_0 : decode cX0_init 0 = .ok (.aload_n 0, 1) := by decide +kernel
theorem dX0_init_1 : decode cX0_init 1 = .ok (.invokespecial 3, 3) := by decide +kernel
theorem dX0_init_4 : decode cX0_init 4 = .ok (.aload_n 0, 1) := by decide +kernel
theorem dX0_init_5 : decode cX0_init 5 = .ok (.iconst 1, 1) := by decide +kernel
theorem dX0_init_6 : decode cX0_init 6 = .ok (.putfield 9, 3) := by decide +kernel
theorem dX0_init_9 : decode cX0_init 9 = .ok (.aload_n 0, 1) := by decide +kernel
theorem dX0_init_10 : decode cX0_init 10 = .ok (.sipush 144, 3) := by decide +kernel
theorem dX0_init_13 : decode cX0_init 13 = .ok (.newarray .int, 2) := by decide +kernel
theorem dX0_init_15 : decode cX0_init 15 = .ok (.putfield 15, 3) := by decide +kernel
theorem dX0_init_18 : decode cX0_init 18 = .ok (.aload_n 0, 1) := by decide +kernel
theorem dX0_init_19 : decode cX0_init 19 = .ok (.bipush 12, 2) := by decide +kernel
theorem dX0_init_21 : decode cX0_init 21 = .ok (.newarray .int, 2) := by decide +kernel
theorem dX0_init_23 : decode cX0_init 23 = .ok (.putfield 19, 3) := by decide +kernel
theorem dX0_init_26 : decode cX0_init 26 = .ok (.aload_n 0, 1) := by decide +kernel
theorem dX0_init_27 : decode cX0_init 27 = .ok (.bipush 12, 2) := by decide +kernel
theorem dX0_init_29 : decode cX0_init 29 = .ok (.newarray .int, 2) := by decide +kernel
theorem dX0_init_31 : decode cX0_init 31 = .ok (.putfield 22, 3) := by decide +kernel
theorem dX0_init_34 : decode cX0_init 34 = .ok (.aload_n 0, 1) := by decide +kernel
theorem dX0_init_35 : decode cX0_init 35 = .ok (.getfield 22, 3) := by decide +kernel
theorem dX0_init_38 : decode cX0_init 38 = .ok (.iconst 0, 1) := by decide +kernel
theorem dX0_init_39 : decode cX0_init 39 = .ok (.iconst 1, 1) := by decide +kernel
theorem dX0_init_40 : decode cX0_init 40 = .ok (.iastore, 1) := by decide +kernel
theorem dX0_init_41 : decode cX0_init 41 = .ok (.return_, 1) := by decide +kernel
def bX0 : cj_B := fun cA ad => ((([(ad 0, .inr (0, [.int (Int32.ofInt 1), .ref (ad 1), .ref (ad 2), .ref (ad 3)]))] ++ [(ad 1, .inl (cA 0, 144, .inl (fun _ => 0)))]) ++ [(ad 2, .inl (cA 0, 12, .inl (fun _ => 0)))]) ++ [(ad 3, .inl (cA 0, 12, .inl (fun k => if k = 0 then Int32.ofInt 1 else (fun _ => 0) k)))])
set_option maxHeartbeats 4000000 in
set_option maxRecDepth 100000 in
theorem kX0_init {n : Nat} : cj_Ct (n + 1) yX0_init cX0_init 1 0 3 168 [.int 0, .null, .null, .null] bX0 := by
  refine cj_met (by decide +kernel) rfl (by decide) (fun X a C K => ?_)
  refine cj_aload0 C dX0_init_0 rfl ?_
  refine cj_objInit C wd177 wd158 wd159 dX0_init_1 ?_
  refine cj_aload0 C dX0_init_4 rfl ?_
  refine cj_iconst (z := 1) C dX0_init_5 ?_
  refine cj_put (fs := [.int 0, .null, .null, .null]) (j := 0) (ws' := [(a, .inr (0, [.int (Int32.ofInt 1), .null, .null, .null]))]) C cfX0 (by decide) wd178 rfl rfl rfl (by decide) rfl rfl dX0_init_6 ?_
  refine cj_aload0 C dX0_init_9 rfl ?_
  refine cj_sipush (z := 144) C dX0_init_10 (by decide) ?_
  refine cj_newarr (e := 0) (N := 144) (a0 := .inl (fun _ => 0)) C wd200 rfl (fun _ => rfl) (fun _ _ _ h1 h2 => Option.some.inj (h1.symm.trans h2)) (fun _ => rfl) rfl (by decide) (by decide) (by decide) (by decide) dX0_init_13 (fun q1 => ?_)
  refine cj_put (fs := [.int (Int32.ofInt 1), .null, .null, .null]) (j := 1) (ws' := ([(a, .inr (0, [.int (Int32.ofInt 1), .ref q1, .null, .null]))] ++ [(q1, .inl (cj_cA X 0, 144, .inl (fun _ => 0)))])) C cfX0 (by decide) wd183 rfl rfl rfl (by decide) rfl rfl dX0_init_15 ?_
  refine cj_aload0 C dX0_init_18 rfl ?_
  refine cj_bipush (z := 12) C dX0_init_19 (by decide) ?_
  refine cj_newarr (e := 0) (N := 12) (a0 := .inl (fun _ => 0)) C wd200 rfl (fun _ => rfl) (fun _ _ _ h1 h2 => Option.some.inj (h1.symm.trans h2)) (fun _ => rfl) rfl (by decide) (by decide) (by decide) (by decide) dX0_init_21 (fun q2 => ?_)
  refine cj_put (fs := [.int (Int32.ofInt 1), .ref q1, .null, .null]) (j := 2) (ws' := (([(a, .inr (0, [.int (Int32.ofInt 1), .ref q1, .ref q2, .null]))] ++ [(q1, .inl (cj_cA X 0, 144, .inl (fun _ => 0)))]) ++ [(q2, .inl (cj_cA X 0, 12, .inl (fun _ => 0)))])) C cfX0 (by decide) wd184 rfl rfl rfl (by decide) rfl rfl dX0_init_23 ?_
  refine cj_aload0 C dX0_init_26 rfl ?_
  refine cj_bipush (z := 12) C dX0_init_27 (by decide) ?_
  refine cj_newarr (e := 0) (N := 12) (a0 := .inl (fun _ => 0)) C wd200 rfl (fun _ => rfl) (fun _ _ _ h1 h2 => Option.some.inj (h1.symm.trans h2)) (fun _ => rfl) rfl (by decide) (by decide) (by decide) (by decide) dX0_init_29 (fun q3 => ?_)
  refine cj_put (fs := [.int (Int32.ofInt 1), .ref q1, .ref q2, .null]) (j := 3) (ws' := ((([(a, .inr (0, [.int (Int32.ofInt 1), .ref q1, .ref q2, .ref q3]))] ++ [(q1, .inl (cj_cA X 0, 144, .inl (fun _ => 0)))]) ++ [(q2, .inl (cj_cA X 0, 12, .inl (fun _ => 0)))]) ++ [(q3, .inl (cj_cA X 0, 12, .inl (fun _ => 0)))])) C cfX0 (by decide) wd186 rfl rfl rfl (by decide) rfl rfl dX0_init_31 ?_
  refine cj_aload0 C dX0_init_34 rfl ?_
  refine cj_getr (fs := [.int (Int32.ofInt 1), .ref q1, .ref q2, .ref q3]) (j := 3) (v := .ref q3) C cfX0 (by decide) wd186 rfl rfl dX0_init_35 ?_
  refine cj_iconst (z := 0) C dX0_init_38 ?_
  refine cj_iconst (z := 1) C dX0_init_39 ?_
  refine cj_iast (ws' := ((([(a, .inr (0, [.int (Int32.ofInt 1), .ref q1, .ref q2, .ref q3]))] ++ [(q1, .inl (cj_cA X 0, 144, .inl (fun _ => 0)))]) ++ [(q2, .inl (cj_cA X 0, 12, .inl (fun _ => 0)))]) ++ [(q3, .inl (cj_cA X 0, 12, .inl (fun k => if k = 0 then Int32.ofInt 1 else (fun _ => 0) k)))])) (g := (fun k => if k = 0 then Int32.ofInt 1 else (fun _ => 0) k)) C 3 rfl (by decide) (by decide) (by funext k; simp [upd]) rfl dX0_init_40 ?_
  exact cj_ret (ad := (fun k => if k < 1 then a else if k < 2 then q1 else if k < 3 then q2 else if k < 4 then q3 else 0)) C K rfl rfl rfl rfl dX0_init_41
theorem dX4_init_0 : decode cX4_init 0 = .ok (.aload_n 0, 1) := by decide +kernel
theorem dX4_init_1 : decode cX4_init 1 = .ok (.invokespecial 3, 3) := by decide +kernel
theorem dX4_init_4 : decode cX4_init 4 = .ok (.aload_n 0, 1) := by decide +kernel
theorem dX4_init_5 : decode cX4_init 5 = .ok (.sipush 900, 3) := by decide +kernel
theorem dX4_init_8 : decode cX4_init 8 = .ok (.newarray .int, 2) := by decide +kernel
theorem dX4_init_10 : decode cX4_init 10 = .ok (.putfield 9, 3) := by decide +kernel
theorem dX4_init_13 : decode cX4_init 13 = .ok (.aload_n 0, 1) := by decide +kernel
theorem dX4_init_14 : decode cX4_init 14 = .ok (.iconst 0, 1) := by decide +kernel
theorem dX4_init_15 : decode cX4_init 15 = .ok (.putfield 15, 3) := by decide +kernel
theorem dX4_init_18 : decode cX4_init 18 = .ok (.aload_n 0, 1) := by decide +kernel
theorem dX4_init_19 : decode cX4_init 19 = .ok (.iconst 0, 1) := by decide +kernel
theorem dX4_init_20 : decode cX4_init 20 = .ok (.putfield 19, 3) := by decide +kernel
theorem dX4_init_23 : decode cX4_init 23 = .ok (.aload_n 0, 1) := by decide +kernel
theorem dX4_init_24 : decode cX4_init 24 = .ok (.iconst 0, 1) := by decide +kernel
theorem dX4_init_25 : decode cX4_init 25 = .ok (.putfield 22, 3) := by decide +kernel
theorem dX4_init_28 : decode cX4_init 28 = .ok (.aload_n 0, 1) := by decide +kernel
theorem dX4_init_29 : decode cX4_init 29 = .ok (.iconst 0, 1) := by decide +kernel
theorem dX4_init_30 : decode cX4_init 30 = .ok (.putfield 25, 3) := by decide +kernel
theorem dX4_init_33 : decode cX4_init 33 = .ok (.aload_n 0, 1) := by decide +kernel
theorem dX4_init_34 : decode cX4_init 34 = .ok (.iconst 0, 1) := by decide +kernel
theorem dX4_init_35 : decode cX4_init 35 = .ok (.putfield 28, 3) := by decide +kernel
theorem dX4_init_38 : decode cX4_init 38 = .ok (.aload_n 0, 1) := by decide +kernel
theorem dX4_init_39 : decode cX4_init 39 = .ok (.bipush 64, 2) := by decide +kernel
theorem dX4_init_41 : decode cX4_init 41 = .ok (.newarray .int, 2) := by decide +kernel
theorem dX4_init_43 : decode cX4_init 43 = .ok (.putfield 31, 3) := by decide +kernel
theorem dX4_init_46 : decode cX4_init 46 = .ok (.return_, 1) := by decide +kernel
def bX4 : cj_B := fun cA ad => (([(ad 0, .inr (4, [.ref (ad 1), .int (Int32.ofInt 0), .int (Int32.ofInt 0), .int (Int32.ofInt 0), .int (Int32.ofInt 0), .int (Int32.ofInt 0), .ref (ad 2)]))] ++ [(ad 1, .inl (cA 0, 900, .inl (fun _ => 0)))]) ++ [(ad 2, .inl (cA 0, 64, .inl (fun _ => 0)))])
set_option maxHeartbeats 4000000 in
set_option maxRecDepth 100000 in
theorem kX4_init {n : Nat} : cj_Ct (n + 1) yX4_init cX4_init 1 4 2 964 [.null, .int 0, .int 0, .int 0, .int 0, .int 0, .null] bX4 := by
  refine cj_met (by decide +kernel) rfl (by decide) (fun X a C K => ?_)
  refine cj_aload0 C dX4_init_0 rfl ?_
  refine cj_objInit C wd206 wd158 wd159 dX4_init_1 ?_
  refine cj_aload0 C dX4_init_4 rfl ?_
  refine cj_sipush (z := 900) C dX4_init_5 (by decide) ?_
  refine cj_newarr (e := 0) (N := 900) (a0 := .inl (fun _ => 0)) C wd200 rfl (fun _ => rfl) (fun _ _ _ h1 h2 => Option.some.inj (h1.symm.trans h2)) (fun _ => rfl) rfl (by decide) (by decide) (by decide) (by decide) dX4_init_8 (fun q1 => ?_)
  refine cj_put (fs := [.null, .int 0, .int 0, .int 0, .int 0, .int 0, .null]) (j := 0) (ws' := ([(a, .inr (4, [.ref q1, .int 0, .int 0, .int 0, .int 0, .int 0, .null]))] ++ [(q1, .inl (cj_cA X 0, 900, .inl (fun _ => 0)))])) C cfX4 (by decide) wd207 rfl rfl rfl (by decide) rfl rfl dX4_init_10 ?_
  refine cj_aload0 C dX4_init_13 rfl ?_
  refine cj_iconst (z := 0) C dX4_init_14 ?_
  refine cj_put (fs := [.ref q1, .int 0, .int 0, .int 0, .int 0, .int 0, .null]) (j := 1) (ws' := ([(a, .inr (4, [.ref q1, .int (Int32.ofInt 0), .int 0, .int 0, .int 0, .int 0, .null]))] ++ [(q1, .inl (cj_cA X 0, 900, .inl (fun _ => 0)))])) C cfX4 (by decide) wd208 rfl rfl rfl (by decide) rfl rfl dX4_init_15 ?_
  refine cj_aload0 C dX4_init_18 rfl ?_
  refine cj_iconst (z := 0) C dX4_init_19 ?_
  refine cj_put (fs := [.ref q1, .int (Int32.ofInt 0), .int 0, .int 0, .int 0, .int 0, .null]) (j := 2) (ws' := ([(a, .inr (4, [.ref q1, .int (Int32.ofInt 0), .int (Int32.ofInt 0), .int 0, .int 0, .int 0, .null]))] ++ [(q1, .inl (cj_cA X 0, 900, .inl (fun _ => 0)))])) C cfX4 (by decide) wd210 rfl rfl rfl (by decide) rfl rfl dX4_init_20 ?_
  refine cj_aload0 C dX4_init_23 rfl ?_
  refine cj_iconst (z := 0) C dX4_init_24 ?_
  refine cj_put (fs := [.ref q1, .int (Int32.ofInt 0), .int (Int32.ofInt 0), .int 0, .int 0, .int 0, .null]) (j := 3) (ws' := ([(a, .inr (4, [.ref q1, .int (Int32.ofInt 0), .int (Int32.ofInt 0), .int (Int32.ofInt 0), .int 0, .int 0, .null]))] ++ [(q1, .inl (cj_cA X 0, 900, .inl (fun _ => 0)))])) C cfX4 (by decide) wd213 rfl rfl rfl (by decide) rfl rfl dX4_init_25 ?_
  refine cj_aload0 C dX4_init_28 rfl ?_
  refine cj_iconst (z := 0) C dX4_init_29 ?_
  refine cj_put (fs := [.ref q1, .int (Int32.ofInt 0), .int (Int32.ofInt 0), .int (Int32.ofInt 0), .int 0, .int 0, .null]) (j := 4) (ws' := ([(a, .inr (4, [.ref q1, .int (Int32.ofInt 0), .int (Int32.ofInt 0), .int (Int32.ofInt 0), .int (Int32.ofInt 0), .int 0, .null]))] ++ [(q1, .inl (cj_cA X 0, 900, .inl (fun _ => 0)))])) C cfX4 (by decide) wd216 rfl rfl rfl (by decide) rfl rfl dX4_init_30 ?_
  refine cj_aload0 C dX4_init_33 rfl ?_
  refine cj_iconst (z := 0) C dX4_init_34 ?_
  refine cj_put (fs := [.ref q1, .int (Int32.ofInt 0), .int (Int32.ofInt 0), .int (Int32.ofInt 0), .int (Int32.ofInt 0), .int 0, .null]) (j := 5) (ws' := ([(a, .inr (4, [.ref q1, .int (Int32.ofInt 0), .int (Int32.ofInt 0), .int (Int32.ofInt 0), .int (Int32.ofInt 0), .int (Int32.ofInt 0), .null]))] ++ [(q1, .inl (cj_cA X 0, 900, .inl (fun _ => 0)))])) C cfX4 (by decide) wd219 rfl rfl rfl (by decide) rfl rfl dX4_init_35 ?_
  refine cj_aload0 C dX4_init_38 rfl ?_
  refine cj_bipush (z := 64) C dX4_init_39 (by decide) ?_
  refine cj_newarr (e := 0) (N := 64) (a0 := .inl (fun _ => 0)) C wd200 rfl (fun _ => rfl) (fun _ _ _ h1 h2 => Option.some.inj (h1.symm.trans h2)) (fun _ => rfl) rfl (by decide) (by decide) (by decide) (by decide) dX4_init_41 (fun q2 => ?_)
  refine cj_put (fs := [.ref q1, .int (Int32.ofInt 0), .int (Int32.ofInt 0), .int (Int32.ofInt 0), .int (Int32.ofInt 0), .int (Int32.ofInt 0), .null]) (j := 6) (ws' := (([(a, .inr (4, [.ref q1, .int (Int32.ofInt 0), .int (Int32.ofInt 0), .int (Int32.ofInt 0), .int (Int32.ofInt 0), .int (Int32.ofInt 0), .ref q2]))] ++ [(q1, .inl (cj_cA X 0, 900, .inl (fun _ => 0)))]) ++ [(q2, .inl (cj_cA X 0, 64, .inl (fun _ => 0)))])) C cfX4 (by decide) wd222 rfl rfl rfl (by decide) rfl rfl dX4_init_43 ?_
  exact cj_ret (ad := (fun k => if k < 1 then a else if k < 2 then q1 else if k < 3 then q2 else 0)) C K rfl rfl rfl rfl dX4_init_46
theorem dX9_init_0 : decode cX9_init 0 = .ok (.aload_n 0, 1) := by decide +kernel
theorem dX9_init_1 : decode cX9_init 1 = .ok (.invokespecial 3, 3) := by decide +kernel
theorem dX9_init_4 : decode cX9_init 4 = .ok (.aload_n 0, 1) := by decide +kernel
theorem dX9_init_5 : decode cX9_init 5 = .ok (.bipush 12, 2) := by decide +kernel
theorem dX9_init_7 : decode cX9_init 7 = .ok (.newarray .int, 2) := by decide +kernel
theorem dX9_init_9 : decode cX9_init 9 = .ok (.putfield 9, 3) := by decide +kernel
theorem dX9_init_12 : decode cX9_init 12 = .ok (.aload_n 0, 1) := by decide +kernel
theorem dX9_init_13 : decode cX9_init 13 = .ok (.iconst 0, 1) := by decide +kernel
theorem dX9_init_14 : decode cX9_init 14 = .ok (.putfield 15, 3) := by decide +kernel
theorem dX9_init_17 : decode cX9_init 17 = .ok (.aload_n 0, 1) := by decide +kernel
theorem dX9_init_18 : decode cX9_init 18 = .ok (.iconst 0, 1) := by decide +kernel
theorem dX9_init_19 : decode cX9_init 19 = .ok (.putfield 19, 3) := by decide +kernel
theorem dX9_init_22 : decode cX9_init 22 = .ok (.return_, 1) := by decide +kernel
def bX9 : cj_B := fun cA ad => ([(ad 0, .inr (9, [.ref (ad 1), .int (Int32.ofInt 0), .int (Int32.ofInt 0)]))] ++ [(ad 1, .inl (cA 0, 12, .inl (fun _ => 0)))])
set_option maxHeartbeats 4000000 in
set_option maxRecDepth 100000 in
theorem kX9_init {n : Nat} : cj_Ct (n + 1) yX9_init cX9_init 1 9 1 12 [.null, .int 0, .int 0] bX9 := by
  refine cj_met (by decide +kernel) rfl (by decide) (fun X a C K => ?_)
  refine cj_aload0 C dX9_init_0 rfl ?_
  refine cj_objInit C wd342 wd158 wd159 dX9_init_1 ?_
  refine cj_aload0 C dX9_init_4 rfl ?_
  refine cj_bipush (z := 12) C dX9_init_5 (by decide) ?_
  refine cj_newarr (e := 0) (N := 12) (a0 := .inl (fun _ => 0)) C wd200 rfl (fun _ => rfl) (fun _ _ _ h1 h2 => Option.some.inj (h1.symm.trans h2)) (fun _ => rfl) rfl (by decide) (by decide) (by decide) (by decide) dX9_init_7 (fun q1 => ?_)
  refine cj_put (fs := [.null, .int 0, .int 0]) (j := 0) (ws' := ([(a, .inr (9, [.ref q1, .int 0, .int 0]))] ++ [(q1, .inl (cj_cA X 0, 12, .inl (fun _ => 0)))])) C cfX9 (by decide) wd343 rfl rfl rfl (by decide) rfl rfl dX9_init_9 ?_
  refine cj_aload0 C dX9_init_12 rfl ?_
  refine cj_iconst (z := 0) C dX9_init_13 ?_
  refine cj_put (fs := [.ref q1, .int 0, .int 0]) (j := 1) (ws' := ([(a, .inr (9, [.ref q1, .int (Int32.ofInt 0), .int 0]))] ++ [(q1, .inl (cj_cA X 0, 12, .inl (fun _ => 0)))])) C cfX9 (by decide) wd346 rfl rfl rfl (by decide) rfl rfl dX9_init_14 ?_
  refine cj_aload0 C dX9_init_17 rfl ?_
  refine cj_iconst (z := 0) C dX9_init_18 ?_
  refine cj_put (fs := [.ref q1, .int (Int32.ofInt 0), .int 0]) (j := 2) (ws' := ([(a, .inr (9, [.ref q1, .int (Int32.ofInt 0), .int (Int32.ofInt 0)]))] ++ [(q1, .inl (cj_cA X 0, 12, .inl (fun _ => 0)))])) C cfX9 (by decide) wd348 rfl rfl rfl (by decide) rfl rfl dX9_init_19 ?_
  exact cj_ret (ad := (fun k => if k < 1 then a else if k < 2 then q1 else 0)) C K rfl rfl rfl rfl dX9_init_22
theorem dX10_init_0 : decode cX10_init 0 = .ok (.aload_n 0, 1) := by decide +kernel
theorem dX10_init_1 : decode cX10_init 1 = .ok (.invokespecial 3, 3) := by decide +kernel
theorem dX10_init_4 : decode cX10_init 4 = .ok (.aload_n 0, 1) := by decide +kernel
theorem dX10_init_5 : decode cX10_init 5 = .ok (.bipush 40, 2) := by decide +kernel
theorem dX10_init_7 : decode cX10_init 7 = .ok (.newarray .long, 2) := by decide +kernel
theorem dX10_init_9 : decode cX10_init 9 = .ok (.putfield 9, 3) := by decide +kernel
theorem dX10_init_12 : decode cX10_init 12 = .ok (.aload_n 0, 1) := by decide +kernel
theorem dX10_init_13 : decode cX10_init 13 = .ok (.iconst 0, 1) := by decide +kernel
theorem dX10_init_14 : decode cX10_init 14 = .ok (.putfield 15, 3) := by decide +kernel
theorem dX10_init_17 : decode cX10_init 17 = .ok (.aload_n 0, 1) := by decide +kernel
theorem dX10_init_18 : decode cX10_init 18 = .ok (.iconst (-1), 1) := by decide +kernel
theorem dX10_init_19 : decode cX10_init 19 = .ok (.putfield 19, 3) := by decide +kernel
theorem dX10_init_22 : decode cX10_init 22 = .ok (.return_, 1) := by decide +kernel
def bX10 : cj_B := fun cA ad => ([(ad 0, .inr (10, [.ref (ad 1), .int (Int32.ofInt 0), .int (Int32.ofInt (-1))]))] ++ [(ad 1, .inl (cA 3, 40, .inr (.inl (fun _ => 0))))])
set_option maxHeartbeats 4000000 in
set_option maxRecDepth 100000 in
theorem kX10_init {n : Nat} : cj_Ct (n + 1) yX10_init cX10_init 1 10 1 40 [.null, .int 0, .int 0] bX10 := by
  refine cj_met (by decide +kernel) rfl (by decide) (fun X a C K => ?_)
  refine cj_aload0 C dX10_init_0 rfl ?_
  refine cj_objInit C wd554 wd158 wd159 dX10_init_1 ?_
  refine cj_aload0 C dX10_init_4 rfl ?_
  refine cj_bipush (z := 40) C dX10_init_5 (by decide) ?_
  refine cj_newarr (e := 3) (N := 40) (a0 := .inr (.inl (fun _ => 0))) C wd567 rfl (fun _ => rfl) (fun _ _ _ h1 h2 => Option.some.inj (h1.symm.trans h2)) (fun _ => rfl) rfl (by decide) (by decide) (by decide) (by decide) dX10_init_7 (fun q1 => ?_)
  refine cj_put (fs := [.null, .int 0, .int 0]) (j := 0) (ws' := ([(a, .inr (10, [.ref q1, .int 0, .int 0]))] ++ [(q1, .inl (cj_cA X 3, 40, .inr (.inl (fun _ => 0))))])) C cfX10 (by decide) wd555 rfl rfl rfl (by decide) rfl rfl dX10_init_9 ?_
  refine cj_aload0 C dX10_init_12 rfl ?_
  refine cj_iconst (z := 0) C dX10_init_13 ?_
  refine cj_put (fs := [.ref q1, .int 0, .int 0]) (j := 1) (ws' := ([(a, .inr (10, [.ref q1, .int (Int32.ofInt 0), .int 0]))] ++ [(q1, .inl (cj_cA X 3, 40, .inr (.inl (fun _ => 0))))])) C cfX10 (by decide) wd557 rfl rfl rfl (by decide) rfl rfl dX10_init_14 ?_
  refine cj_aload0 C dX10_init_17 rfl ?_
  refine cj_iconst (z := (-1)) C dX10_init_18 ?_
  refine cj_put (fs := [.ref q1, .int (Int32.ofInt 0), .int 0]) (j := 2) (ws' := ([(a, .inr (10, [.ref q1, .int (Int32.ofInt 0), .int (Int32.ofInt (-1))]))] ++ [(q1, .inl (cj_cA X 3, 40, .inr (.inl (fun _ => 0))))])) C cfX10 (by decide) wd558 rfl rfl rfl (by decide) rfl rfl dX10_init_19 ?_
  exact cj_ret (ad := (fun k => if k < 1 then a else if k < 2 then q1 else 0)) C K rfl rfl rfl rfl dX10_init_22
theorem dX2_init_0 : decode cX2_init 0 = .ok (.aload_n 0, 1) := by decide +kernel
theorem dX2_init_1 : decode cX2_init 1 = .ok (.invokespecial 5, 3) := by decide +kernel
theorem dX2_init_4 : decode cX2_init 4 = .ok (.aload_n 0, 1) := by decide +kernel
theorem dX2_init_5 : decode cX2_init 5 = .ok (.iconst 0, 1) := by decide +kernel
theorem dX2_init_6 : decode cX2_init 6 = .ok (.putfield 11, 3) := by decide +kernel
theorem dX2_init_9 : decode cX2_init 9 = .ok (.aload_n 0, 1) := by decide +kernel
theorem dX2_init_10 : decode cX2_init 10 = .ok (.iconst 0, 1) := by decide +kernel
theorem dX2_init_11 : decode cX2_init 11 = .ok (.putfield 15, 3) := by decide +kernel
theorem dX2_init_14 : decode cX2_init 14 = .ok (.aload_n 0, 1) := by decide +kernel
theorem dX2_init_15 : decode cX2_init 15 = .ok (.iconst 0, 1) := by decide +kernel
theorem dX2_init_16 : decode cX2_init 16 = .ok (.putfield 18, 3) := by decide +kernel
theorem dX2_init_19 : decode cX2_init 19 = .ok (.aload_n 0, 1) := by decide +kernel
theorem dX2_init_20 : decode cX2_init 20 = .ok (.iconst 0, 1) := by decide +kernel
theorem dX2_init_21 : decode cX2_init 21 = .ok (.putfield 21, 3) := by decide +kernel
theorem dX2_init_24 : decode cX2_init 24 = .ok (.aload_n 0, 1) := by decide +kernel
theorem dX2_init_25 : decode cX2_init 25 = .ok (.iconst 0, 1) := by decide +kernel
theorem dX2_init_26 : decode cX2_init 26 = .ok (.putfield 24, 3) := by decide +kernel
theorem dX2_init_29 : decode cX2_init 29 = .ok (.aload_n 0, 1) := by decide +kernel
theorem dX2_init_30 : decode cX2_init 30 = .ok (.iconst 0, 1) := by decide +kernel
theorem dX2_init_31 : decode cX2_init 31 = .ok (.putfield 27, 3) := by decide +kernel
theorem dX2_init_34 : decode cX2_init 34 = .ok (.aload_n 0, 1) := by decide +kernel
theorem dX2_init_35 : decode cX2_init 35 = .ok (.bipush 14, 2) := by decide +kernel
theorem dX2_init_37 : decode cX2_init 37 = .ok (.newarray .int, 2) := by decide +kernel
theorem dX2_init_39 : decode cX2_init 39 = .ok (.putfield 30, 3) := by decide +kernel
theorem dX2_init_42 : decode cX2_init 42 = .ok (.aload_n 0, 1) := by decide +kernel
theorem dX2_init_43 : decode cX2_init 43 = .ok (.bipush 14, 2) := by decide +kernel
theorem dX2_init_45 : decode cX2_init 45 = .ok (.newarray .int, 2) := by decide +kernel
theorem dX2_init_47 : decode cX2_init 47 = .ok (.putfield 34, 3) := by decide +kernel
theorem dX2_init_50 : decode cX2_init 50 = .ok (.return_, 1) := by decide +kernel
def bX2 : cj_B := fun cA ad => (([(ad 0, .inr (2, [.int (Int32.ofInt 0), .int (Int32.ofInt 0), .int (Int32.ofInt 0), .int (Int32.ofInt 0), .int (Int32.ofInt 0), .int (Int32.ofInt 0), .ref (ad 1), .ref (ad 2)]))] ++ [(ad 1, .inl (cA 0, 14, .inl (fun _ => 0)))]) ++ [(ad 2, .inl (cA 0, 14, .inl (fun _ => 0)))])
set_option maxHeartbeats 4000000 in
set_option maxRecDepth 100000 in
theorem kX2_init {n : Nat} : cj_Ct (n + 1) yX2_init cX2_init 1 2 2 28 [.int 0, .int 0, .int 0, .int 0, .int 0, .int 0, .null, .null] bX2 := by
  refine cj_met (by decide +kernel) rfl (by decide) (fun X a C K => ?_)
  refine cj_aload0 C dX2_init_0 rfl ?_
  refine cj_objInit C wd500 wd158 wd159 dX2_init_1 ?_
  refine cj_aload0 C dX2_init_4 rfl ?_
  refine cj_iconst (z := 0) C dX2_init_5 ?_
  refine cj_put (fs := [.int 0, .int 0, .int 0, .int 0, .int 0, .int 0, .null, .null]) (j := 0) (ws' := [(a, .inr (2, [.int (Int32.ofInt 0), .int 0, .int 0, .int 0, .int 0, .int 0, .null, .null]))]) C cfX2 (by decide) wd501 rfl rfl rfl (by decide) rfl rfl dX2_init_6 ?_
  refine cj_aload0 C dX2_init_9 rfl ?_
  refine cj_iconst (z := 0) C dX2_init_10 ?_
  refine cj_put (fs := [.int (Int32.ofInt 0), .int 0, .int 0, .int 0, .int 0, .int 0, .null, .null]) (j := 1) (ws' := [(a, .inr (2, [.int (Int32.ofInt 0), .int (Int32.ofInt 0), .int 0, .int 0, .int 0, .int 0, .null, .null]))]) C cfX2 (by decide) wd502 rfl rfl rfl (by decide) rfl rfl dX2_init_11 ?_
  refine cj_aload0 C dX2_init_14 rfl ?_
  refine cj_iconst (z := 0) C dX2_init_15 ?_
  refine cj_put (fs := [.int (Int32.ofInt 0), .int (Int32.ofInt 0), .int 0, .int 0, .int 0, .int 0, .null, .null]) (j := 2) (ws' := [(a, .inr (2, [.int (Int32.ofInt 0), .int (Int32.ofInt 0), .int (Int32.ofInt 0), .int 0, .int 0, .int 0, .null, .null]))]) C cfX2 (by decide) wd503 rfl rfl rfl (by decide) rfl rfl dX2_init_16 ?_
  refine cj_aload0 C dX2_init_19 rfl ?_
  refine cj_iconst (z := 0) C dX2_init_20 ?_
  refine cj_put (fs := [.int (Int32.ofInt 0), .int (Int32.ofInt 0), .int (Int32.ofInt 0), .int 0, .int 0, .int 0, .null, .null]) (j := 3) (ws' := [(a, .inr (2, [.int (Int32.ofInt 0), .int (Int32.ofInt 0), .int (Int32.ofInt 0), .int (Int32.ofInt 0), .int 0, .int 0, .null, .null]))]) C cfX2 (by decide) wd504 rfl rfl rfl (by decide) rfl rfl dX2_init_21 ?_
  refine cj_aload0 C dX2_init_24 rfl ?_
  refine cj_iconst (z := 0) C dX2_init_25 ?_
  refine cj_put (fs := [.int (Int32.ofInt 0), .int (Int32.ofInt 0), .int (Int32.ofInt 0), .int (Int32.ofInt 0), .int 0, .int 0, .null, .null]) (j := 4) (ws' := [(a, .inr (2, [.int (Int32.ofInt 0), .int (Int32.ofInt 0), .int (Int32.ofInt 0), .int (Int32.ofInt 0), .int (Int32.ofInt 0), .int 0, .null, .null]))]) C cfX2 (by decide) wd506 rfl rfl rfl (by decide) rfl rfl dX2_init_26 ?_
  refine cj_aload0 C dX2_init_29 rfl ?_
  refine cj_iconst (z := 0) C dX2_init_30 ?_
  refine cj_put (fs := [.int (Int32.ofInt 0), .int (Int32.ofInt 0), .int (Int32.ofInt 0), .int (Int32.ofInt 0), .int (Int32.ofInt 0), .int 0, .null, .null]) (j := 5) (ws' := [(a, .inr (2, [.int (Int32.ofInt 0), .int (Int32.ofInt 0), .int (Int32.ofInt 0), .int (Int32.ofInt 0), .int (Int32.ofInt 0), .int (Int32.ofInt 0), .null, .null]))]) C cfX2 (by decide) wd508 rfl rfl rfl (by decide) rfl rfl dX2_init_31 ?_
  refine cj_aload0 C dX2_init_34 rfl ?_
  refine cj_bipush (z := 14) C dX2_init_35 (by decide) ?_
  refine cj_newarr (e := 0) (N := 14) (a0 := .inl (fun _ => 0)) C wd200 rfl (fun _ => rfl) (fun _ _ _ h1 h2 => Option.some.inj (h1.symm.trans h2)) (fun _ => rfl) rfl (by decide) (by decide) (by decide) (by decide) dX2_init_37 (fun q1 => ?_)
  refine cj_put (fs := [.int (Int32.ofInt 0), .int (Int32.ofInt 0), .int (Int32.ofInt 0), .int (Int32.ofInt 0), .int (Int32.ofInt 0), .int (Int32.ofInt 0), .null, .null]) (j := 6) (ws' := ([(a, .inr (2, [.int (Int32.ofInt 0), .int (Int32.ofInt 0), .int (Int32.ofInt 0), .int (Int32.ofInt 0), .int (Int32.ofInt 0), .int (Int32.ofInt 0), .ref q1, .null]))] ++ [(q1, .inl (cj_cA X 0, 14, .inl (fun _ => 0)))])) C cfX2 (by decide) wd510 rfl rfl rfl (by decide) rfl rfl dX2_init_39 ?_
  refine cj_aload0 C dX2_init_42 rfl ?_
  refine cj_bipush (z := 14) C dX2_init_43 (by decide) ?_
  refine cj_newarr (e := 0) (N := 14) (a0 := .inl (fun _ => 0)) C wd200 rfl (fun _ => rfl) (fun _ _ _ h1 h2 => Option.some.inj (h1.symm.trans h2)) (fun _ => rfl) rfl (by decide) (by decide) (by decide) (by decide) dX2_init_45 (fun q2 => ?_)
  refine cj_put (fs := [.int (Int32.ofInt 0), .int (Int32.ofInt 0), .int (Int32.ofInt 0), .int (Int32.ofInt 0), .int (Int32.ofInt 0), .int (Int32.ofInt 0), .ref q1, .null]) (j := 7) (ws' := (([(a, .inr (2, [.int (Int32.ofInt 0), .int (Int32.ofInt 0), .int (Int32.ofInt 0), .int (Int32.ofInt 0), .int (Int32.ofInt 0), .int (Int32.ofInt 0), .ref q1, .ref q2]))] ++ [(q1, .inl (cj_cA X 0, 14, .inl (fun _ => 0)))]) ++ [(q2, .inl (cj_cA X 0, 14, .inl (fun _ => 0)))])) C cfX2 (by decide) wd512 rfl rfl rfl (by decide) rfl rfl dX2_init_47 ?_
  exact cj_ret (ad := (fun k => if k < 1 then a else if k < 2 then q1 else if k < 3 then q2 else 0)) C K rfl rfl rfl rfl dX2_init_50
theorem dX5_init_0 : decode cX5_init 0 = .ok (.aload_n 0, 1) := by decide +kernel
theorem dX5_init_1 : decode cX5_init 1 = .ok (.invokespecial 3, 3) := by decide +kernel
theorem dX5_init_4 : decode cX5_init 4 = .ok (.aload_n 0, 1) := by decide +kernel
theorem dX5_init_5 : decode cX5_init 5 = .ok (.iconst 0, 1) := by decide +kernel
theorem dX5_init_6 : decode cX5_init 6 = .ok (.putfield 9, 3) := by decide +kernel
theorem dX5_init_9 : decode cX5_init 9 = .ok (.aload_n 0, 1) := by decide +kernel
theorem dX5_init_10 : decode cX5_init 10 = .ok (.iconst 0, 1) := by decide +kernel
theorem dX5_init_11 : decode cX5_init 11 = .ok (.putfield 15, 3) := by decide +kernel
theorem dX5_init_14 : decode cX5_init 14 = .ok (.aload_n 0, 1) := by decide +kernel
theorem dX5_init_15 : decode cX5_init 15 = .ok (.sipush 144, 3) := by decide +kernel
theorem dX5_init_18 : decode cX5_init 18 = .ok (.newarray .int, 2) := by decide +kernel
theorem dX5_init_20 : decode cX5_init 20 = .ok (.putfield 18, 3) := by decide +kernel
theorem dX5_init_23 : decode cX5_init 23 = .ok (.aload_n 0, 1) := by decide +kernel
theorem dX5_init_24 : decode cX5_init 24 = .ok (.sipush 144, 3) := by decide +kernel
theorem dX5_init_27 : decode cX5_init 27 = .ok (.newarray .int, 2) := by decide +kernel
theorem dX5_init_29 : decode cX5_init 29 = .ok (.putfield 22, 3) := by decide +kernel
theorem dX5_init_32 : decode cX5_init 32 = .ok (.aload_n 0, 1) := by decide +kernel
theorem dX5_init_33 : decode cX5_init 33 = .ok (.sipush 144, 3) := by decide +kernel
theorem dX5_init_36 : decode cX5_init 36 = .ok (.newarray .int, 2) := by decide +kernel
theorem dX5_init_38 : decode cX5_init 38 = .ok (.putfield 25, 3) := by decide +kernel
theorem dX5_init_41 : decode cX5_init 41 = .ok (.aload_n 0, 1) := by decide +kernel
theorem dX5_init_42 : decode cX5_init 42 = .ok (.sipush 144, 3) := by decide +kernel
theorem dX5_init_45 : decode cX5_init 45 = .ok (.newarray .int, 2) := by decide +kernel
theorem dX5_init_47 : decode cX5_init 47 = .ok (.putfield 28, 3) := by decide +kernel
theorem dX5_init_50 : decode cX5_init 50 = .ok (.aload_n 0, 1) := by decide +kernel
theorem dX5_init_51 : decode cX5_init 51 = .ok (.sipush 144, 3) := by decide +kernel
theorem dX5_init_54 : decode cX5_init 54 = .ok (.newarray .int, 2) := by decide +kernel
theorem dX5_init_56 : decode cX5_init 56 = .ok (.putfield 31, 3) := by decide +kernel
theorem dX5_init_59 : decode cX5_init 59 = .ok (.aload_n 0, 1) := by decide +kernel
theorem dX5_init_60 : decode cX5_init 60 = .ok (.iconst 0, 1) := by decide +kernel
theorem dX5_init_61 : decode cX5_init 61 = .ok (.putfield 34, 3) := by decide +kernel
theorem dX5_init_64 : decode cX5_init 64 = .ok (.aload_n 0, 1) := by decide +kernel
theorem dX5_init_65 : decode cX5_init 65 = .ok (.bipush 62, 2) := by decide +kernel
theorem dX5_init_67 : decode cX5_init 67 = .ok (.newarray .int, 2) := by decide +kernel
theorem dX5_init_69 : decode cX5_init 69 = .ok (.putfield 38, 3) := by decide +kernel
theorem dX5_init_72 : decode cX5_init 72 = .ok (.aload_n 0, 1) := by decide +kernel
theorem dX5_init_73 : decode cX5_init 73 = .ok (.sipush 288, 3) := by decide +kernel
theorem dX5_init_76 : decode cX5_init 76 = .ok (.newarray .int, 2) := by decide +kernel
theorem dX5_init_78 : decode cX5_init 78 = .ok (.putfield 41, 3) := by decide +kernel
theorem dX5_init_81 : decode cX5_init 81 = .ok (.aload_n 0, 1) := by decide +kernel
theorem dX5_init_82 : decode cX5_init 82 = .ok (.bipush 60, 2) := by decide +kernel
theorem dX5_init_84 : decode cX5_init 84 = .ok (.newarray .int, 2) := by decide +kernel
theorem dX5_init_86 : decode cX5_init 86 = .ok (.putfield 44, 3) := by decide +kernel
theorem dX5_init_89 : decode cX5_init 89 = .ok (.aload_n 0, 1) := by decide +kernel
theorem dX5_init_90 : decode cX5_init 90 = .ok (.bipush 60, 2) := by decide +kernel
theorem dX5_init_92 : decode cX5_init 92 = .ok (.newarray .int, 2) := by decide +kernel
theorem dX5_init_94 : decode cX5_init 94 = .ok (.putfield 47, 3) := by decide +kernel
theorem dX5_init_97 : decode cX5_init 97 = .ok (.aload_n 0, 1) := by decide +kernel
theorem dX5_init_98 : decode cX5_init 98 = .ok (.bipush 60, 2) := by decide +kernel
theorem dX5_init_100 : decode cX5_init 100 = .ok (.newarray .int, 2) := by decide +kernel
theorem dX5_init_102 : decode cX5_init 102 = .ok (.putfield 50, 3) := by decide +kernel
theorem dX5_init_105 : decode cX5_init 105 = .ok (.aload_n 0, 1) := by decide +kernel
theorem dX5_init_106 : decode cX5_init 106 = .ok (.bipush 60, 2) := by decide +kernel
theorem dX5_init_108 : decode cX5_init 108 = .ok (.newarray .int, 2) := by decide +kernel
theorem dX5_init_110 : decode cX5_init 110 = .ok (.putfield 53, 3) := by decide +kernel
theorem dX5_init_113 : decode cX5_init 113 = .ok (.aload_n 0, 1) := by decide +kernel
theorem dX5_init_114 : decode cX5_init 114 = .ok (.bipush 60, 2) := by decide +kernel
theorem dX5_init_116 : decode cX5_init 116 = .ok (.newarray .int, 2) := by decide +kernel
theorem dX5_init_118 : decode cX5_init 118 = .ok (.putfield 56, 3) := by decide +kernel
theorem dX5_init_121 : decode cX5_init 121 = .ok (.aload_n 0, 1) := by decide +kernel
theorem dX5_init_122 : decode cX5_init 122 = .ok (.lconst 0, 1) := by decide +kernel
theorem dX5_init_123 : decode cX5_init 123 = .ok (.putfield 59, 3) := by decide +kernel
theorem dX5_init_126 : decode cX5_init 126 = .ok (.aload_n 0, 1) := by decide +kernel
theorem dX5_init_127 : decode cX5_init 127 = .ok (.lconst 0, 1) := by decide +kernel
theorem dX5_init_128 : decode cX5_init 128 = .ok (.putfield 63, 3) := by decide +kernel
theorem dX5_init_131 : decode cX5_init 131 = .ok (.return_, 1) := by decide +kernel
def bX5 : cj_B := fun cA ad => (((((((((((([(ad 0, .inr (5, [.int (Int32.ofInt 0), .int (Int32.ofInt 0), .ref (ad 1), .ref (ad 2), .ref (ad 3), .ref (ad 4), .ref (ad 5), .int (Int32.ofInt 0), .ref (ad 6), .ref (ad 7), .ref (ad 8), .ref (ad 9), .ref (ad 10), .ref (ad 11), .ref (ad 12), .long 0, .long 0]))] ++ [(ad 1, .inl (cA 0, 144, .inl (fun _ => 0)))]) ++ [(ad 2, .inl (cA 0, 144, .inl (fun _ => 0)))]) ++ [(ad 3, .inl (cA 0, 144, .inl (fun _ => 0)))]) ++ [(ad 4, .inl (cA 0, 144, .inl (fun _ => 0)))]) ++ [(ad 5, .inl (cA 0, 144, .inl (fun _ => 0)))]) ++ [(ad 6, .inl (cA 0, 62, .inl (fun _ => 0)))]) ++ [(ad 7, .inl (cA 0, 288, .inl (fun _ => 0)))]) ++ [(ad 8, .inl (cA 0, 60, .inl (fun _ => 0)))]) ++ [(ad 9, .inl (cA 0, 60, .inl (fun _ => 0)))]) ++ [(ad 10, .inl (cA 0, 60, .inl (fun _ => 0)))]) ++ [(ad 11, .inl (cA 0, 60, .inl (fun _ => 0)))]) ++ [(ad 12, .inl (cA 0, 60, .inl (fun _ => 0)))])
set_option maxHeartbeats 4000000 in
set_option maxRecDepth 100000 in
theorem kX5_init {n : Nat} : cj_Ct (n + 1) yX5_init cX5_init 1 5 12 1370 [.int 0, .int 0, .null, .null, .null, .null, .null, .int 0, .null, .null, .null, .null, .null, .null, .null, .long 0, .long 0] bX5 := by
  refine cj_met (by decide +kernel) rfl (by decide) (fun X a C K => ?_)
  refine cj_aload0 C dX5_init_0 rfl ?_
  refine cj_objInit C wd393 wd158 wd159 dX5_init_1 ?_
  refine cj_aload0 C dX5_init_4 rfl ?_
  refine cj_iconst (z := 0) C dX5_init_5 ?_
  refine cj_put (fs := [.int 0, .int 0, .null, .null, .null, .null, .null, .int 0, .null, .null, .null, .null, .null, .null, .null, .long 0, .long 0]) (j := 0) (ws' := [(a, .inr (5, [.int (Int32.ofInt 0), .int 0, .null, .null, .null, .null, .null, .int 0, .null, .null, .null, .null, .null, .null, .null, .long 0, .long 0]))]) C cfX5 (by decide) wd394 rfl rfl rfl (by decide) rfl rfl dX5_init_6 ?_
  refine cj_aload0 C dX5_init_9 rfl ?_
  refine cj_iconst (z := 0) C dX5_init_10 ?_
  refine cj_put (fs := [.int (Int32.ofInt 0), .int 0, .null, .null, .null, .null, .null, .int 0, .null, .null, .null, .null, .null, .null, .null, .long 0, .long 0]) (j := 1) (ws' := [(a, .inr (5, [.int (Int32.ofInt 0), .int (Int32.ofInt 0), .null, .null, .null, .null, .null, .int 0, .null, .null, .null, .null, .null, .null, .null, .long 0, .long 0]))]) C cfX5 (by decide) wd397 rfl rfl rfl (by decide) rfl rfl dX5_init_11 ?_
  refine cj_aload0 C dX5_init_14 rfl ?_
  refine cj_sipush (z := 144) C dX5_init_15 (by decide) ?_
  refine cj_newarr (e := 0) (N := 144) (a0 := .inl (fun _ => 0)) C wd200 rfl (fun _ => rfl) (fun _ _ _ h1 h2 => Option.some.inj (h1.symm.trans h2)) (fun _ => rfl) rfl (by decide) (by decide) (by decide) (by decide) dX5_init_18 (fun q1 => ?_)
  refine cj_put (fs := [.int (Int32.ofInt 0), .int (Int32.ofInt 0), .null, .null, .null, .null, .null, .int 0, .null, .null, .null, .null, .null, .null, .null, .long 0, .long 0]) (j := 2) (ws' := ([(a, .inr (5, [.int (Int32.ofInt 0), .int (Int32.ofInt 0), .ref q1, .null, .null, .null, .null, .int 0, .null, .null, .null, .null, .null, .null, .null, .long 0, .long 0]))] ++ [(q1, .inl (cj_cA X 0, 144, .inl (fun _ => 0)))])) C cfX5 (by decide) wd400 rfl rfl rfl (by decide) rfl rfl dX5_init_20 ?_
  refine cj_aload0 C dX5_init_23 rfl ?_
  refine cj_sipush (z := 144) C dX5_init_24 (by decide) ?_
  refine cj_newarr (e := 0) (N := 144) (a0 := .inl (fun _ => 0)) C wd200 rfl (fun _ => rfl) (fun _ _ _ h1 h2 => Option.some.inj (h1.symm.trans h2)) (fun _ => rfl) rfl (by decide) (by decide) (by decide) (by decide) dX5_init_27 (fun q2 => ?_)
  refine cj_put (fs := [.int (Int32.ofInt 0), .int (Int32.ofInt 0), .ref q1, .null, .null, .null, .null, .int 0, .null, .null, .null, .null, .null, .null, .null, .long 0, .long 0]) (j := 3) (ws' := (([(a, .inr (5, [.int (Int32.ofInt 0), .int (Int32.ofInt 0), .ref q1, .ref q2, .null, .null, .null, .int 0, .null, .null, .null, .null, .null, .null, .null, .long 0, .long 0]))] ++ [(q1, .inl (cj_cA X 0, 144, .inl (fun _ => 0)))]) ++ [(q2, .inl (cj_cA X 0, 144, .inl (fun _ => 0)))])) C cfX5 (by decide) wd402 rfl rfl rfl (by decide) rfl rfl dX5_init_29 ?_
  refine cj_aload0 C dX5_init_32 rfl ?_
  refine cj_sipush (z := 144) C dX5_init_33 (by decide) ?_
  refine cj_newarr (e := 0) (N := 144) (a0 := .inl (fun _ => 0)) C wd200 rfl (fun _ => rfl) (fun _ _ _ h1 h2 => Option.some.inj (h1.symm.trans h2)) (fun _ => rfl) rfl (by decide) (by decide) (by decide) (by decide) dX5_init_36 (fun q3 => ?_)
  refine cj_put (fs := [.int (Int32.ofInt 0), .int (Int32.ofInt 0), .ref q1, .ref q2, .null, .null, .null, .int 0, .null, .null, .null, .null, .null, .null, .null, .long 0, .long 0]) (j := 4) (ws' := ((([(a, .inr (5, [.int (Int32.ofInt 0), .int (Int32.ofInt 0), .ref q1, .ref q2, .ref q3, .null, .null, .int 0, .null, .null, .null, .null, .null, .null, .null, .long 0, .long 0]))] ++ [(q1, .inl (cj_cA X 0, 144, .inl (fun _ => 0)))]) ++ [(q2, .inl (cj_cA X 0, 144, .inl (fun _ => 0)))]) ++ [(q3, .inl (cj_cA X 0, 144, .inl (fun _ => 0)))])) C cfX5 (by decide) wd404 rfl rfl rfl (by decide) rfl rfl dX5_init_38 ?_
  refine cj_aload0 C dX5_init_41 rfl ?_
  refine cj_sipush (z := 144) C dX5_init_42 (by decide) ?_
  refine cj_newarr (e := 0) (N := 144) (a0 := .inl (fun _ => 0)) C wd200 rfl (fun _ => rfl) (fun _ _ _ h1 h2 => Option.some.inj (h1.symm.trans h2)) (fun _ => rfl) rfl (by decide) (by decide) (by decide) (by decide) dX5_init_45 (fun q4 => ?_)
  refine cj_put (fs := [.int (Int32.ofInt 0), .int (Int32.ofInt 0), .ref q1, .ref q2, .ref q3, .null, .null, .int 0, .null, .null, .null, .null, .null, .null, .null, .long 0, .long 0]) (j := 5) (ws' := (((([(a, .inr (5, [.int (Int32.ofInt 0), .int (Int32.ofInt 0), .ref q1, .ref q2, .ref q3, .ref q4, .null, .int 0, .null, .null, .null, .null, .null, .null, .null, .long 0, .long 0]))] ++ [(q1, .inl (cj_cA X 0, 144, .inl (fun _ => 0)))]) ++ [(q2, .inl (cj_cA X 0, 144, .inl (fun _ => 0)))]) ++ [(q3, .inl (cj_cA X 0, 144, .inl (fun _ => 0)))]) ++ [(q4, .inl (cj_cA X 0, 144, .inl (fun _ => 0)))])) C cfX5 (by decide) wd405 rfl rfl rfl (by decide) rfl rfl dX5_init_47 ?_
  refine cj_aload0 C dX5_init_50 rfl ?_
  refine cj_sipush (z := 144) C dX5_init_51 (by decide) ?_
  refine cj_newarr (e := 0) (N := 144) (a0 := .inl (fun _ => 0)) C wd200 rfl (fun _ => rfl) (fun _ _ _ h1 h2 => Option.some.inj (h1.symm.trans h2)) (fun _ => rfl) rfl (by decide) (by decide) (by decide) (by decide) dX5_init_54 (fun q5 => ?_)
  refine cj_put (fs := [.int (Int32.ofInt 0), .int (Int32.ofInt 0), .ref q1, .ref q2, .ref q3, .ref q4, .null, .int 0, .null, .null, .null, .null, .null, .null, .null, .long 0, .long 0]) (j := 6) (ws' := ((((([(a, .inr (5, [.int (Int32.ofInt 0), .int (Int32.ofInt 0), .ref q1, .ref q2, .ref q3, .ref q4, .ref q5, .int 0, .null, .null, .null, .null, .null, .null, .null, .long 0, .long 0]))] ++ [(q1, .inl (cj_cA X 0, 144, .inl (fun _ => 0)))]) ++ [(q2, .inl (cj_cA X 0, 144, .inl (fun _ => 0)))]) ++ [(q3, .inl (cj_cA X 0, 144, .inl (fun _ => 0)))]) ++ [(q4, .inl (cj_cA X 0, 144, .inl (fun _ => 0)))]) ++ [(q5, .inl (cj_cA X 0, 144, .inl (fun _ => 0)))])) C cfX5 (by decide) wd406 rfl rfl rfl (by decide) rfl rfl dX5_init_56 ?_
  refine cj_aload0 C dX5_init_59 rfl ?_
  refine cj_iconst (z := 0) C dX5_init_60 ?_
  refine cj_put (fs := [.int (Int32.ofInt 0), .int (Int32.ofInt 0), .ref q1, .ref q2, .ref q3, .ref q4, .ref q5, .int 0, .null, .null, .null, .null, .null, .null, .null, .long 0, .long 0]) (j := 7) (ws' := ((((([(a, .inr (5, [.int (Int32.ofInt 0), .int (Int32.ofInt 0), .ref q1, .ref q2, .ref q3, .ref q4, .ref q5, .int (Int32.ofInt 0), .null, .null, .null, .null, .null, .null, .null, .long 0, .long 0]))] ++ [(q1, .inl (cj_cA X 0, 144, .inl (fun _ => 0)))]) ++ [(q2, .inl (cj_cA X 0, 144, .inl (fun _ => 0)))]) ++ [(q3, .inl (cj_cA X 0, 144, .inl (fun _ => 0)))]) ++ [(q4, .inl (cj_cA X 0, 144, .inl (fun _ => 0)))]) ++ [(q5, .inl (cj_cA X 0, 144, .inl (fun _ => 0)))])) C cfX5 (by decide) wd407 rfl rfl rfl (by decide) rfl rfl dX5_init_61 ?_
  refine cj_aload0 C dX5_init_64 rfl ?_
  refine cj_bipush (z := 62) C dX5_init_65 (by decide) ?_
  refine cj_newarr (e := 0) (N := 62) (a0 := .inl (fun _ => 0)) C wd200 rfl (fun _ => rfl) (fun _ _ _ h1 h2 => Option.some.inj (h1.symm.trans h2)) (fun _ => rfl) rfl (by decide) (by decide) (by decide) (by decide) dX5_init_67 (fun q6 => ?_)
  refine cj_put (fs := [.int (Int32.ofInt 0), .int (Int32.ofInt 0), .ref q1, .ref q2, .ref q3, .ref q4, .ref q5, .int (Int32.ofInt 0), .null, .null, .null, .null, .null, .null, .null, .long 0, .long 0]) (j := 8) (ws' := (((((([(a, .inr (5, [.int (Int32.ofInt 0), .int (Int32.ofInt 0), .ref q1, .ref q2, .ref q3, .ref q4, .ref q5, .int (Int32.ofInt 0), .ref q6, .null, .null, .null, .null, .null, .null, .long 0, .long 0]))] ++ [(q1, .inl (cj_cA X 0, 144, .inl (fun _ => 0)))]) ++ [(q2, .inl (cj_cA X 0, 144, .inl (fun _ => 0)))]) ++ [(q3, .inl (cj_cA X 0, 144, .inl (fun _ => 0)))]) ++ [(q4, .inl (cj_cA X 0, 144, .inl (fun _ => 0)))]) ++ [(q5, .inl (cj_cA X 0, 144, .inl (fun _ => 0)))]) ++ [(q6, .inl (cj_cA X 0, 62, .inl (fun _ => 0)))])) C cfX5 (by decide) wd408 rfl rfl rfl (by decide) rfl rfl dX5_init_69 ?_
  refine cj_aload0 C dX5_init_72 rfl ?_
  refine cj_sipush (z := 288) C dX5_init_73 (by decide) ?_
  refine cj_newarr (e := 0) (N := 288) (a0 := .inl (fun _ => 0)) C wd200 rfl (fun _ => rfl) (fun _ _ _ h1 h2 => Option.some.inj (h1.symm.trans h2)) (fun _ => rfl) rfl (by decide) (by decide) (by decide) (by decide) dX5_init_76 (fun q7 => ?_)
  refine cj_put (fs := [.int (Int32.ofInt 0), .int (Int32.ofInt 0), .ref q1, .ref q2, .ref q3, .ref q4, .ref q5, .int (Int32.ofInt 0), .ref q6, .null, .null, .null, .null, .null, .null, .long 0, .long 0]) (j := 9) (ws' := ((((((([(a, .inr (5, [.int (Int32.ofInt 0), .int (Int32.ofInt 0), .ref q1, .ref q2, .ref q3, .ref q4, .ref q5, .int (Int32.ofInt 0), .ref q6, .ref q7, .null, .null, .null, .null, .null, .long 0, .long 0]))] ++ [(q1, .inl (cj_cA X 0, 144, .inl (fun _ => 0)))]) ++ [(q2, .inl (cj_cA X 0, 144, .inl (fun _ => 0)))]) ++ [(q3, .inl (cj_cA X 0, 144, .inl (fun _ => 0)))]) ++ [(q4, .inl (cj_cA X 0, 144, .inl (fun _ => 0)))]) ++ [(q5, .inl (cj_cA X 0, 144, .inl (fun _ => 0)))]) ++ [(q6, .inl (cj_cA X 0, 62, .inl (fun _ => 0)))]) ++ [(q7, .inl (cj_cA X 0, 288, .inl (fun _ => 0)))])) C cfX5 (by decide) wd410 rfl rfl rfl (by decide) rfl rfl dX5_init_78 ?_
  refine cj_aload0 C dX5_init_81 rfl ?_
  refine cj_bipush (z := 60) C dX5_init_82 (by decide) ?_
  refine cj_newarr (e := 0) (N := 60) (a0 := .inl (fun _ => 0)) C wd200 rfl (fun _ => rfl) (fun _ _ _ h1 h2 => Option.some.inj (h1.symm.trans h2)) (fun _ => rfl) rfl (by decide) (by decide) (by decide) (by decide) dX5_init_84 (fun q8 => ?_)
  refine cj_put (fs := [.int (Int32.ofInt 0), .int (Int32.ofInt 0), .ref q1, .ref q2, .ref q3, .ref q4, .ref q5, .int (Int32.ofInt 0), .ref q6, .ref q7, .null, .null, .null, .null, .null, .long 0, .long 0]) (j := 10) (ws' := (((((((([(a, .inr (5, [.int (Int32.ofInt 0), .int (Int32.ofInt 0), .ref q1, .ref q2, .ref q3, .ref q4, .ref q5, .int (Int32.ofInt 0), .ref q6, .ref q7, .ref q8, .null, .null, .null, .null, .long 0, .long 0]))] ++ [(q1, .inl (cj_cA X 0, 144, .inl (fun _ => 0)))]) ++ [(q2, .inl (cj_cA X 0, 144, .inl (fun _ => 0)))]) ++ [(q3, .inl (cj_cA X 0, 144, .inl (fun _ => 0)))]) ++ [(q4, .inl (cj_cA X 0, 144, .inl (fun _ => 0)))]) ++ [(q5, .inl (cj_cA X 0, 144, .inl (fun _ => 0)))]) ++ [(q6, .inl (cj_cA X 0, 62, .inl (fun _ => 0)))]) ++ [(q7, .inl (cj_cA X 0, 288, .inl (fun _ => 0)))]) ++ [(q8, .inl (cj_cA X 0, 60, .inl (fun _ => 0)))])) C cfX5 (by decide) wd412 rfl rfl rfl (by decide) rfl rfl dX5_init_86 ?_
  refine cj_aload0 C dX5_init_89 rfl ?_
  refine cj_bipush (z := 60) C dX5_init_90 (by decide) ?_
  refine cj_newarr (e := 0) (N := 60) (a0 := .inl (fun _ => 0)) C wd200 rfl (fun _ => rfl) (fun _ _ _ h1 h2 => Option.some.inj (h1.symm.trans h2)) (fun _ => rfl) rfl (by decide) (by decide) (by decide) (by decide) dX5_init_92 (fun q9 => ?_)
  refine cj_put (fs := [.int (Int32.ofInt 0), .int (Int32.ofInt 0), .ref q1, .ref q2, .ref q3, .ref q4, .ref q5, .int (Int32.ofInt 0), .ref q6, .ref q7, .ref q8, .null, .null, .null, .null, .long 0, .long 0]) (j := 11) (ws' := ((((((((([(a, .inr (5, [.int (Int32.ofInt 0), .int (Int32.ofInt 0), .ref q1, .ref q2, .ref q3, .ref q4, .ref q5, .int (Int32.ofInt 0), .ref q6, .ref q7, .ref q8, .ref q9, .null, .null, .null, .long 0, .long 0]))] ++ [(q1, .inl (cj_cA X 0, 144, .inl (fun _ => 0)))]) ++ [(q2, .inl (cj_cA X 0, 144, .inl (fun _ => 0)))]) ++ [(q3, .inl (cj_cA X 0, 144, .inl (fun _ => 0)))]) ++ [(q4, .inl (cj_cA X 0, 144, .inl (fun _ => 0)))]) ++ [(q5, .inl (cj_cA X 0, 144, .inl (fun _ => 0)))]) ++ [(q6, .inl (cj_cA X 0, 62, .inl (fun _ => 0)))]) ++ [(q7, .inl (cj_cA X 0, 288, .inl (fun _ => 0)))]) ++ [(q8, .inl (cj_cA X 0, 60, .inl (fun _ => 0)))]) ++ [(q9, .inl (cj_cA X 0, 60, .inl (fun _ => 0)))])) C cfX5 (by decide) wd415 rfl rfl rfl (by decide) rfl rfl dX5_init_94 ?_
  refine cj_aload0 C dX5_init_97 rfl ?_
  refine cj_bipush (z := 60) C dX5_init_98 (by decide) ?_
  refine cj_newarr (e := 0) (N := 60) (a0 := .inl (fun _ => 0)) C wd200 rfl (fun _ => rfl) (fun _ _ _ h1 h2 => Option.some.inj (h1.symm.trans h2)) (fun _ => rfl) rfl (by decide) (by decide) (by decide) (by decide) dX5_init_100 (fun q10 => ?_)
  refine cj_put (fs := [.int (Int32.ofInt 0), .int (Int32.ofInt 0), .ref q1, .ref q2, .ref q3, .ref q4, .ref q5, .int (Int32.ofInt 0), .ref q6, .ref q7, .ref q8, .ref q9, .null, .null, .null, .long 0, .long 0]) (j := 12) (ws' := (((((((((([(a, .inr (5, [.int (Int32.ofInt 0), .int (Int32.ofInt 0), .ref q1, .ref q2, .ref q3, .ref q4, .ref q5, .int (Int32.ofInt 0), .ref q6, .ref q7, .ref q8, .ref q9, .ref q10, .null, .null, .long 0, .long 0]))] ++ [(q1, .inl (cj_cA X 0, 144, .inl (fun _ => 0)))]) ++ [(q2, .inl (cj_cA X 0, 144, .inl (fun _ => 0)))]) ++ [(q3, .inl (cj_cA X 0, 144, .inl (fun _ => 0)))]) ++ [(q4, .inl (cj_cA X 0, 144, .inl (fun _ => 0)))]) ++ [(q5, .inl (cj_cA X 0, 144, .inl (fun _ => 0)))]) ++ [(q6, .inl (cj_cA X 0, 62, .inl (fun _ => 0)))]) ++ [(q7, .inl (cj_cA X 0, 288, .inl (fun _ => 0)))]) ++ [(q8, .inl (cj_cA X 0, 60, .inl (fun _ => 0)))]) ++ [(q9, .inl (cj_cA X 0, 60, .inl (fun _ => 0)))]) ++ [(q10, .inl (cj_cA X 0, 60, .inl (fun _ => 0)))])) C cfX5 (by decide) wd417 rfl rfl rfl (by decide) rfl rfl dX5_init_102 ?_
  refine cj_aload0 C dX5_init_105 rfl ?_
  refine cj_bipush (z := 60) C dX5_init_106 (by decide) ?_
  refine cj_newarr (e := 0) (N := 60) (a0 := .inl (fun _ => 0)) C wd200 rfl (fun _ => rfl) (fun _ _ _ h1 h2 => Option.some.inj (h1.symm.trans h2)) (fun _ => rfl) rfl (by decide) (by decide) (by decide) (by decide) dX5_init_108 (fun q11 => ?_)
  refine cj_put (fs := [.int (Int32.ofInt 0), .int (Int32.ofInt 0), .ref q1, .ref q2, .ref q3, .ref q4, .ref q5, .int (Int32.ofInt 0), .ref q6, .ref q7, .ref q8, .ref q9, .ref q10, .null, .null, .long 0, .long 0]) (j := 13) (ws' := ((((((((((([(a, .inr (5, [.int (Int32.ofInt 0), .int (Int32.ofInt 0), .ref q1, .ref q2, .ref q3, .ref q4, .ref q5, .int (Int32.ofInt 0), .ref q6, .ref q7, .ref q8, .ref q9, .ref q10, .ref q11, .null, .long 0, .long 0]))] ++ [(q1, .inl (cj_cA X 0, 144, .inl (fun _ => 0)))]) ++ [(q2, .inl (cj_cA X 0, 144, .inl (fun _ => 0)))]) ++ [(q3, .inl (cj_cA X 0, 144, .inl (fun _ => 0)))]) ++ [(q4, .inl (cj_cA X 0, 144, .inl (fun _ => 0)))]) ++ [(q5, .inl (cj_cA X 0, 144, .inl (fun _ => 0)))]) ++ [(q6, .inl (cj_cA X 0, 62, .inl (fun _ => 0)))]) ++ [(q7, .inl (cj_cA X 0, 288, .inl (fun _ => 0)))]) ++ [(q8, .inl (cj_cA X 0, 60, .inl (fun _ => 0)))]) ++ [(q9, .inl (cj_cA X 0, 60, .inl (fun _ => 0)))]) ++ [(q10, .inl (cj_cA X 0, 60, .inl (fun _ => 0)))]) ++ [(q11, .inl (cj_cA X 0, 60, .inl (fun _ => 0)))])) C cfX5 (by decide) wd418 rfl rfl rfl (by decide) rfl rfl dX5_init_110 ?_
  refine cj_aload0 C dX5_init_113 rfl ?_
  refine cj_bipush (z := 60) C dX5_init_114 (by decide) ?_
  refine cj_newarr (e := 0) (N := 60) (a0 := .inl (fun _ => 0)) C wd200 rfl (fun _ => rfl) (fun _ _ _ h1 h2 => Option.some.inj (h1.symm.trans h2)) (fun _ => rfl) rfl (by decide) (by decide) (by decide) (by decide) dX5_init_116 (fun q12 => ?_)
  refine cj_put (fs := [.int (Int32.ofInt 0), .int (Int32.ofInt 0), .ref q1, .ref q2, .ref q3, .ref q4, .ref q5, .int (Int32.ofInt 0), .ref q6, .ref q7, .ref q8, .ref q9, .ref q10, .ref q11, .null, .long 0, .long 0]) (j := 14) (ws' := (((((((((((([(a, .inr (5, [.int (Int32.ofInt 0), .int (Int32.ofInt 0), .ref q1, .ref q2, .ref q3, .ref q4, .ref q5, .int (Int32.ofInt 0), .ref q6, .ref q7, .ref q8, .ref q9, .ref q10, .ref q11, .ref q12, .long 0, .long 0]))] ++ [(q1, .inl (cj_cA X 0, 144, .inl (fun _ => 0)))]) ++ [(q2, .inl (cj_cA X 0, 144, .inl (fun _ => 0)))]) ++ [(q3, .inl (cj_cA X 0, 144, .inl (fun _ => 0)))]) ++ [(q4, .inl (cj_cA X 0, 144, .inl (fun _ => 0)))]) ++ [(q5, .inl (cj_cA X 0, 144, .inl (fun _ => 0)))]) ++ [(q6, .inl (cj_cA X 0, 62, .inl (fun _ => 0)))]) ++ [(q7, .inl (cj_cA X 0, 288, .inl (fun _ => 0)))]) ++ [(q8, .inl (cj_cA X 0, 60, .inl (fun _ => 0)))]) ++ [(q9, .inl (cj_cA X 0, 60, .inl (fun _ => 0)))]) ++ [(q10, .inl (cj_cA X 0, 60, .inl (fun _ => 0)))]) ++ [(q11, .inl (cj_cA X 0, 60, .inl (fun _ => 0)))]) ++ [(q12, .inl (cj_cA X 0, 60, .inl (fun _ => 0)))])) C cfX5 (by decide) wd419 rfl rfl rfl (by decide) rfl rfl dX5_init_118 ?_
  refine cj_aload0 C dX5_init_121 rfl ?_
  refine cj_lconst0 C dX5_init_122 ?_
  refine cj_put (fs := [.int (Int32.ofInt 0), .int (Int32.ofInt 0), .ref q1, .ref q2, .ref q3, .ref q4, .ref q5, .int (Int32.ofInt 0), .ref q6, .ref q7, .ref q8, .ref q9, .ref q10, .ref q11, .ref q12, .long 0, .long 0]) (j := 15) (ws' := (((((((((((([(a, .inr (5, [.int (Int32.ofInt 0), .int (Int32.ofInt 0), .ref q1, .ref q2, .ref q3, .ref q4, .ref q5, .int (Int32.ofInt 0), .ref q6, .ref q7, .ref q8, .ref q9, .ref q10, .ref q11, .ref q12, .long 0, .long 0]))] ++ [(q1, .inl (cj_cA X 0, 144, .inl (fun _ => 0)))]) ++ [(q2, .inl (cj_cA X 0, 144, .inl (fun _ => 0)))]) ++ [(q3, .inl (cj_cA X 0, 144, .inl (fun _ => 0)))]) ++ [(q4, .inl (cj_cA X 0, 144, .inl (fun _ => 0)))]) ++ [(q5, .inl (cj_cA X 0, 144, .inl (fun _ => 0)))]) ++ [(q6, .inl (cj_cA X 0, 62, .inl (fun _ => 0)))]) ++ [(q7, .inl (cj_cA X 0, 288, .inl (fun _ => 0)))]) ++ [(q8, .inl (cj_cA X 0, 60, .inl (fun _ => 0)))]) ++ [(q9, .inl (cj_cA X 0, 60, .inl (fun _ => 0)))]) ++ [(q10, .inl (cj_cA X 0, 60, .inl (fun _ => 0)))]) ++ [(q11, .inl (cj_cA X 0, 60, .inl (fun _ => 0)))]) ++ [(q12, .inl (cj_cA X 0, 60, .inl (fun _ => 0)))])) C cfX5 (by decide) wd420 rfl rfl rfl (by decide) rfl rfl dX5_init_123 ?_
  refine cj_aload0 C dX5_init_126 rfl ?_
  refine cj_lconst0 C dX5_init_127 ?_
  refine cj_put (fs := [.int (Int32.ofInt 0), .int (Int32.ofInt 0), .ref q1, .ref q2, .ref q3, .ref q4, .ref q5, .int (Int32.ofInt 0), .ref q6, .ref q7, .ref q8, .ref q9, .ref q10, .ref q11, .ref q12, .long 0, .long 0]) (j := 16) (ws' := (((((((((((([(a, .inr (5, [.int (Int32.ofInt 0), .int (Int32.ofInt 0), .ref q1, .ref q2, .ref q3, .ref q4, .ref q5, .int (Int32.ofInt 0), .ref q6, .ref q7, .ref q8, .ref q9, .ref q10, .ref q11, .ref q12, .long 0, .long 0]))] ++ [(q1, .inl (cj_cA X 0, 144, .inl (fun _ => 0)))]) ++ [(q2, .inl (cj_cA X 0, 144, .inl (fun _ => 0)))]) ++ [(q3, .inl (cj_cA X 0, 144, .inl (fun _ => 0)))]) ++ [(q4, .inl (cj_cA X 0, 144, .inl (fun _ => 0)))]) ++ [(q5, .inl (cj_cA X 0, 144, .inl (fun _ => 0)))]) ++ [(q6, .inl (cj_cA X 0, 62, .inl (fun _ => 0)))]) ++ [(q7, .inl (cj_cA X 0, 288, .inl (fun _ => 0)))]) ++ [(q8, .inl (cj_cA X 0, 60, .inl (fun _ => 0)))]) ++ [(q9, .inl (cj_cA X 0, 60, .inl (fun _ => 0)))]) ++ [(q10, .inl (cj_cA X 0, 60, .inl (fun _ => 0)))]) ++ [(q11, .inl (cj_cA X 0, 60, .inl (fun _ => 0)))]) ++ [(q12, .inl (cj_cA X 0, 60, .inl (fun _ => 0)))])) C cfX5 (by decide) wd421 rfl rfl rfl (by decide) rfl rfl dX5_init_128 ?_
  exact cj_ret (ad := (fun k => if k < 1 then a else if k < 2 then q1 else if k < 3 then q2 else if k < 4 then q3 else if k < 5 then q4 else if k < 6 then q5 else if k < 7 then q6 else if k < 8 then q7 else if k < 9 then q8 else if k < 10 then q9 else if k < 11 then q10 else if k < 12 then q11 else if k < 13 then q12 else 0)) C K rfl rfl rfl rfl dX5_init_131
theorem dX6_init_0 : decode cX6_init 0 = .ok (.aload_n 0, 1) := by decide +kernel
theorem dX6_init_1 : decode cX6_init 1 = .ok (.invokespecial 3, 3) := by decide +kernel
theorem dX6_init_4 : decode cX6_init 4 = .ok (.aload_n 0, 1) := by decide +kernel
theorem dX6_init_5 : decode cX6_init 5 = .ok (.new 9, 3) := by decide +kernel
theorem dX6_init_8 : decode cX6_init 8 = .ok (.dup, 1) := by decide +kernel
theorem dX6_init_9 : decode cX6_init 9 = .ok (.invokespecial 11, 3) := by decide +kernel
theorem dX6_init_12 : decode cX6_init 12 = .ok (.putfield 12, 3) := by decide +kernel
theorem dX6_init_15 : decode cX6_init 15 = .ok (.aload_n 0, 1) := by decide +kernel
theorem dX6_init_16 : decode cX6_init 16 = .ok (.new 18, 3) := by decide +kernel
theorem dX6_init_19 : decode cX6_init 19 = .ok (.dup, 1) := by decide +kernel
theorem dX6_init_20 : decode cX6_init 20 = .ok (.invokespecial 20, 3) := by decide +kernel
theorem dX6_init_23 : decode cX6_init 23 = .ok (.putfield 21, 3) := by decide +kernel
theorem dX6_init_26 : decode cX6_init 26 = .ok (.aload_n 0, 1) := by decide +kernel
theorem dX6_init_27 : decode cX6_init 27 = .ok (.iconst 0, 1) := by decide +kernel
theorem dX6_init_28 : decode cX6_init 28 = .ok (.putfield 25, 3) := by decide +kernel
theorem dX6_init_31 : decode cX6_init 31 = .ok (.aload_n 0, 1) := by decide +kernel
theorem dX6_init_32 : decode cX6_init 32 = .ok (.iconst 1, 1) := by decide +kernel
theorem dX6_init_33 : decode cX6_init 33 = .ok (.putfield 29, 3) := by decide +kernel
theorem dX6_init_36 : decode cX6_init 36 = .ok (.aload_n 0, 1) := by decide +kernel
theorem dX6_init_37 : decode cX6_init 37 = .ok (.iconst 0, 1) := by decide +kernel
theorem dX6_init_38 : decode cX6_init 38 = .ok (.putfield 32, 3) := by decide +kernel
theorem dX6_init_41 : decode cX6_init 41 = .ok (.aload_n 0, 1) := by decide +kernel
theorem dX6_init_42 : decode cX6_init 42 = .ok (.iconst 0, 1) := by decide +kernel
theorem dX6_init_43 : decode cX6_init 43 = .ok (.putfield 35, 3) := by decide +kernel
theorem dX6_init_46 : decode cX6_init 46 = .ok (.aload_n 0, 1) := by decide +kernel
theorem dX6_init_47 : decode cX6_init 47 = .ok (.iconst 0, 1) := by decide +kernel
theorem dX6_init_48 : decode cX6_init 48 = .ok (.putfield 38, 3) := by decide +kernel
theorem dX6_init_51 : decode cX6_init 51 = .ok (.aload_n 0, 1) := by decide +kernel
theorem dX6_init_52 : decode cX6_init 52 = .ok (.bipush 12, 2) := by decide +kernel
theorem dX6_init_54 : decode cX6_init 54 = .ok (.newarray .int, 2) := by decide +kernel
theorem dX6_init_56 : decode cX6_init 56 = .ok (.putfield 41, 3) := by decide +kernel
theorem dX6_init_59 : decode cX6_init 59 = .ok (.aload_n 0, 1) := by decide +kernel
theorem dX6_init_60 : decode cX6_init 60 = .ok (.bipush 12, 2) := by decide +kernel
theorem dX6_init_62 : decode cX6_init 62 = .ok (.newarray .int, 2) := by decide +kernel
theorem dX6_init_64 : decode cX6_init 64 = .ok (.putfield 45, 3) := by decide +kernel
theorem dX6_init_67 : decode cX6_init 67 = .ok (.aload_n 0, 1) := by decide +kernel
theorem dX6_init_68 : decode cX6_init 68 = .ok (.bipush 12, 2) := by decide +kernel
theorem dX6_init_70 : decode cX6_init 70 = .ok (.newarray .int, 2) := by decide +kernel
theorem dX6_init_72 : decode cX6_init 72 = .ok (.putfield 48, 3) := by decide +kernel
theorem dX6_init_75 : decode cX6_init 75 = .ok (.aload_n 0, 1) := by decide +kernel
theorem dX6_init_76 : decode cX6_init 76 = .ok (.iconst (-1), 1) := by decide +kernel
theorem dX6_init_77 : decode cX6_init 77 = .ok (.putfield 51, 3) := by decide +kernel
theorem dX6_init_80 : decode cX6_init 80 = .ok (.aload_n 0, 1) := by decide +kernel
theorem dX6_init_81 : decode cX6_init 81 = .ok (.bipush 12, 2) := by decide +kernel
theorem dX6_init_83 : decode cX6_init 83 = .ok (.newarray .int, 2) := by decide +kernel
theorem dX6_init_85 : decode cX6_init 85 = .ok (.putfield 54, 3) := by decide +kernel
theorem dX6_init_88 : decode cX6_init 88 = .ok (.return_, 1) := by decide +kernel
def bX6 : cj_B := fun cA ad => (((((([(ad 0, .inr (6, [.ref (ad 1), .ref (ad 5), .int (Int32.ofInt 0), .int (Int32.ofInt 1), .int (Int32.ofInt 0), .int (Int32.ofInt 0), .int (Int32.ofInt 0), .ref (ad 8), .ref (ad 9), .ref (ad 10), .int (Int32.ofInt (-1)), .ref (ad 11)]))] ++ bX0 cA (fun k => ad (1 + k))) ++ bX4 cA (fun k => ad (5 + k))) ++ [(ad 8, .inl (cA 0, 12, .inl (fun _ => 0)))]) ++ [(ad 9, .inl (cA 0, 12, .inl (fun _ => 0)))]) ++ [(ad 10, .inl (cA 0, 12, .inl (fun _ => 0)))]) ++ [(ad 11, .inl (cA 0, 12, .inl (fun _ => 0)))])
set_option maxHeartbeats 4000000 in
set_option maxRecDepth 100000 in
theorem kX6_init {n : Nat} : cj_Ct (n + 2) yX6_init cX6_init 1 6 11 1191 [.null, .null, .int 0, .int 0, .int 0, .int 0, .int 0, .null, .null, .null, .int 0, .null] bX6 := by
  refine cj_met (by decide +kernel) rfl (by decide) (fun X a C K => ?_)
  refine cj_aload0 C dX6_init_0 rfl ?_
  refine cj_objInit C wd171 wd158 wd159 dX6_init_1 ?_
  refine cj_aload0 C dX6_init_4 rfl ?_
  refine cj_newi C cfX0 wd172 wd173 wd133 (by decide) (kX0_init) (by decide) (by decide +kernel) (Or.inl wd174) wd175 wd176 (Nat.le_of_ble_eq_true rfl) (by decide) (by decide) dX6_init_5 dX6_init_8 dX6_init_9 (fun ad1 => ?_)
  refine cj_put (fs := [.null, .null, .int 0, .int 0, .int 0, .int 0, .int 0, .null, .null, .null, .int 0, .null]) (j := 0) (ws' := ([(a, .inr (6, [.ref (ad1 0), .null, .int 0, .int 0, .int 0, .int 0, .int 0, .null, .null, .null, .int 0, .null]))] ++ bX0 (cj_cA X) ad1)) C cfX6 (by decide) wd238 rfl rfl rfl (by decide) rfl rfl dX6_init_12 ?_
  refine cj_aload0 C dX6_init_15 rfl ?_
  refine cj_newi C cfX4 wd201 wd202 wd134 (by decide) (kX4_init) (by decide) (by decide +kernel) (Or.inr ⟨"CageLift", List.mem_of_getElem? (i := 2) rfl⟩) wd204 wd205 (Nat.le_of_ble_eq_true rfl) (by decide) (by decide) dX6_init_16 dX6_init_19 dX6_init_20 (fun ad2 => ?_)
  refine cj_put (fs := [.ref (ad1 0), .null, .int 0, .int 0, .int 0, .int 0, .int 0, .null, .null, .null, .int 0, .null]) (j := 1) (ws' := (([(a, .inr (6, [.ref (ad1 0), .ref (ad2 0), .int 0, .int 0, .int 0, .int 0, .int 0, .null, .null, .null, .int 0, .null]))] ++ bX0 (cj_cA X) ad1) ++ bX4 (cj_cA X) ad2)) C cfX6 (by decide) wd242 rfl rfl rfl (by decide) rfl rfl dX6_init_23 ?_
  refine cj_aload0 C dX6_init_26 rfl ?_
  refine cj_iconst (z := 0) C dX6_init_27 ?_
  refine cj_put (fs := [.ref (ad1 0), .ref (ad2 0), .int 0, .int 0, .int 0, .int 0, .int 0, .null, .null, .null, .int 0, .null]) (j := 2) (ws' := (([(a, .inr (6, [.ref (ad1 0), .ref (ad2 0), .int (Int32.ofInt 0), .int 0, .int 0, .int 0, .int 0, .null, .null, .null, .int 0, .null]))] ++ bX0 (cj_cA X) ad1) ++ bX4 (cj_cA X) ad2)) C cfX6 (by decide) wd244 rfl rfl rfl (by decide) rfl rfl dX6_init_28 ?_
  refine cj_aload0 C dX6_init_31 rfl ?_
  refine cj_iconst (z := 1) C dX6_init_32 ?_
  refine cj_put (fs := [.ref (ad1 0), .ref (ad2 0), .int (Int32.ofInt 0), .int 0, .int 0, .int 0, .int 0, .null, .null, .null, .int 0, .null]) (j := 3) (ws' := (([(a, .inr (6, [.ref (ad1 0), .ref (ad2 0), .int (Int32.ofInt 0), .int (Int32.ofInt 1), .int 0, .int 0, .int 0, .null, .null, .null, .int 0, .null]))] ++ bX0 (cj_cA X) ad1) ++ bX4 (cj_cA X) ad2)) C cfX6 (by decide) wd247 rfl rfl rfl (by decide) rfl rfl dX6_init_33 ?_
  refine cj_aload0 C dX6_init_36 rfl ?_
  refine cj_iconst (z := 0) C dX6_init_37 ?_
  refine cj_put (fs := [.ref (ad1 0), .ref (ad2 0), .int (Int32.ofInt 0), .int (Int32.ofInt 1), .int 0, .int 0, .int 0, .null, .null, .null, .int 0, .null]) (j := 4) (ws' := (([(a, .inr (6, [.ref (ad1 0), .ref (ad2 0), .int (Int32.ofInt 0), .int (Int32.ofInt 1), .int (Int32.ofInt 0), .int 0, .int 0, .null, .null, .null, .int 0, .null]))] ++ bX0 (cj_cA X) ad1) ++ bX4 (cj_cA X) ad2)) C cfX6 (by decide) wd251 rfl rfl rfl (by decide) rfl rfl dX6_init_38 ?_
  refine cj_aload0 C dX6_init_41 rfl ?_
  refine cj_iconst (z := 0) C dX6_init_42 ?_
  refine cj_put (fs := [.ref (ad1 0), .ref (ad2 0), .int (Int32.ofInt 0), .int (Int32.ofInt 1), .int (Int32.ofInt 0), .int 0, .int 0, .null, .null, .null, .int 0, .null]) (j := 5) (ws' := (([(a, .inr (6, [.ref (ad1 0), .ref (ad2 0), .int (Int32.ofInt 0), .int (Int32.ofInt 1), .int (Int32.ofInt 0), .int (Int32.ofInt 0), .int 0, .null, .null, .null, .int 0, .null]))] ++ bX0 (cj_cA X) ad1) ++ bX4 (cj_cA X) ad2)) C cfX6 (by decide) wd255 rfl rfl rfl (by decide) rfl rfl dX6_init_43 ?_
  refine cj_aload0 C dX6_init_46 rfl ?_
  refine cj_iconst (z := 0) C dX6_init_47 ?_
  refine cj_put (fs := [.ref (ad1 0), .ref (ad2 0), .int (Int32.ofInt 0), .int (Int32.ofInt 1), .int (Int32.ofInt 0), .int (Int32.ofInt 0), .int 0, .null, .null, .null, .int 0, .null]) (j := 6) (ws' := (([(a, .inr (6, [.ref (ad1 0), .ref (ad2 0), .int (Int32.ofInt 0), .int (Int32.ofInt 1), .int (Int32.ofInt 0), .int (Int32.ofInt 0), .int (Int32.ofInt 0), .null, .null, .null, .int 0, .null]))] ++ bX0 (cj_cA X) ad1) ++ bX4 (cj_cA X) ad2)) C cfX6 (by decide) wd258 rfl rfl rfl (by decide) rfl rfl dX6_init_48 ?_
  refine cj_aload0 C dX6_init_51 rfl ?_
  refine cj_bipush (z := 12) C dX6_init_52 (by decide) ?_
  refine cj_newarr (e := 0) (N := 12) (a0 := .inl (fun _ => 0)) C wd200 rfl (fun _ => rfl) (fun _ _ _ h1 h2 => Option.some.inj (h1.symm.trans h2)) (fun _ => rfl) rfl (by decide) (by decide) (by decide) (by decide) dX6_init_54 (fun q3 => ?_)
  refine cj_put (fs := [.ref (ad1 0), .ref (ad2 0), .int (Int32.ofInt 0), .int (Int32.ofInt 1), .int (Int32.ofInt 0), .int (Int32.ofInt 0), .int (Int32.ofInt 0), .null, .null, .null, .int 0, .null]) (j := 7) (ws' := ((([(a, .inr (6, [.ref (ad1 0), .ref (ad2 0), .int (Int32.ofInt 0), .int (Int32.ofInt 1), .int (Int32.ofInt 0), .int (Int32.ofInt 0), .int (Int32.ofInt 0), .ref q3, .null, .null, .int 0, .null]))] ++ bX0 (cj_cA X) ad1) ++ bX4 (cj_cA X) ad2) ++ [(q3, .inl (cj_cA X 0, 12, .inl (fun _ => 0)))])) C cfX6 (by decide) wd259 rfl rfl rfl (by decide) rfl rfl dX6_init_56 ?_
  refine cj_aload0 C dX6_init_59 rfl ?_
  refine cj_bipush (z := 12) C dX6_init_60 (by decide) ?_
  refine cj_newarr (e := 0) (N := 12) (a0 := .inl (fun _ => 0)) C wd200 rfl (fun _ => rfl) (fun _ _ _ h1 h2 => Option.some.inj (h1.symm.trans h2)) (fun _ => rfl) rfl (by decide) (by decide) (by decide) (by decide) dX6_init_62 (fun q4 => ?_)
  refine cj_put (fs := [.ref (ad1 0), .ref (ad2 0), .int (Int32.ofInt 0), .int (Int32.ofInt 1), .int (Int32.ofInt 0), .int (Int32.ofInt 0), .int (Int32.ofInt 0), .ref q3, .null, .null, .int 0, .null]) (j := 8) (ws' := (((([(a, .inr (6, [.ref (ad1 0), .ref (ad2 0), .int (Int32.ofInt 0), .int (Int32.ofInt 1), .int (Int32.ofInt 0), .int (Int32.ofInt 0), .int (Int32.ofInt 0), .ref q3, .ref q4, .null, .int 0, .null]))] ++ bX0 (cj_cA X) ad1) ++ bX4 (cj_cA X) ad2) ++ [(q3, .inl (cj_cA X 0, 12, .inl (fun _ => 0)))]) ++ [(q4, .inl (cj_cA X 0, 12, .inl (fun _ => 0)))])) C cfX6 (by decide) wd263 rfl rfl rfl (by decide) rfl rfl dX6_init_64 ?_
  refine cj_aload0 C dX6_init_67 rfl ?_
  refine cj_bipush (z := 12) C dX6_init_68 (by decide) ?_
  refine cj_newarr (e := 0) (N := 12) (a0 := .inl (fun _ => 0)) C wd200 rfl (fun _ => rfl) (fun _ _ _ h1 h2 => Option.some.inj (h1.symm.trans h2)) (fun _ => rfl) rfl (by decide) (by decide) (by decide) (by decide) dX6_init_70 (fun q5 => ?_)
  refine cj_put (fs := [.ref (ad1 0), .ref (ad2 0), .int (Int32.ofInt 0), .int (Int32.ofInt 1), .int (Int32.ofInt 0), .int (Int32.ofInt 0), .int (Int32.ofInt 0), .ref q3, .ref q4, .null, .int 0, .null]) (j := 9) (ws' := ((((([(a, .inr (6, [.ref (ad1 0), .ref (ad2 0), .int (Int32.ofInt 0), .int (Int32.ofInt 1), .int (Int32.ofInt 0), .int (Int32.ofInt 0), .int (Int32.ofInt 0), .ref q3, .ref q4, .ref q5, .int 0, .null]))] ++ bX0 (cj_cA X) ad1) ++ bX4 (cj_cA X) ad2) ++ [(q3, .inl (cj_cA X 0, 12, .inl (fun _ => 0)))]) ++ [(q4, .inl (cj_cA X 0, 12, .inl (fun _ => 0)))]) ++ [(q5, .inl (cj_cA X 0, 12, .inl (fun _ => 0)))])) C cfX6 (by decide) wd267 rfl rfl rfl (by decide) rfl rfl dX6_init_72 ?_
  refine cj_aload0 C dX6_init_75 rfl ?_
  refine cj_iconst (z := (-1)) C dX6_init_76 ?_
  refine cj_put (fs := [.ref (ad1 0), .ref (ad2 0), .int (Int32.ofInt 0), .int (Int32.ofInt 1), .int (Int32.ofInt 0), .int (Int32.ofInt 0), .int (Int32.ofInt 0), .ref q3, .ref q4, .ref q5, .int 0, .null]) (j := 10) (ws' := ((((([(a, .inr (6, [.ref (ad1 0), .ref (ad2 0), .int (Int32.ofInt 0), .int (Int32.ofInt 1), .int (Int32.ofInt 0), .int (Int32.ofInt 0), .int (Int32.ofInt 0), .ref q3, .ref q4, .ref q5, .int (Int32.ofInt (-1)), .null]))] ++ bX0 (cj_cA X) ad1) ++ bX4 (cj_cA X) ad2) ++ [(q3, .inl (cj_cA X 0, 12, .inl (fun _ => 0)))]) ++ [(q4, .inl (cj_cA X 0, 12, .inl (fun _ => 0)))]) ++ [(q5, .inl (cj_cA X 0, 12, .inl (fun _ => 0)))])) C cfX6 (by decide) wd269 rfl rfl rfl (by decide) rfl rfl dX6_init_77 ?_
  refine cj_aload0 C dX6_init_80 rfl ?_
  refine cj_bipush (z := 12) C dX6_init_81 (by decide) ?_
  refine cj_newarr (e := 0) (N := 12) (a0 := .inl (fun _ => 0)) C wd200 rfl (fun _ => rfl) (fun _ _ _ h1 h2 => Option.some.inj (h1.symm.trans h2)) (fun _ => rfl) rfl (by decide) (by decide) (by decide) (by decide) dX6_init_83 (fun q6 => ?_)
  refine cj_put (fs := [.ref (ad1 0), .ref (ad2 0), .int (Int32.ofInt 0), .int (Int32.ofInt 1), .int (Int32.ofInt 0), .int (Int32.ofInt 0), .int (Int32.ofInt 0), .ref q3, .ref q4, .ref q5, .int (Int32.ofInt (-1)), .null]) (j := 11) (ws' := (((((([(a, .inr (6, [.ref (ad1 0), .ref (ad2 0), .int (Int32.ofInt 0), .int (Int32.ofInt 1), .int (Int32.ofInt 0), .int (Int32.ofInt 0), .int (Int32.ofInt 0), .ref q3, .ref q4, .ref q5, .int (Int32.ofInt (-1)), .ref q6]))] ++ bX0 (cj_cA X) ad1) ++ bX4 (cj_cA X) ad2) ++ [(q3, .inl (cj_cA X 0, 12, .inl (fun _ => 0)))]) ++ [(q4, .inl (cj_cA X 0, 12, .inl (fun _ => 0)))]) ++ [(q5, .inl (cj_cA X 0, 12, .inl (fun _ => 0)))]) ++ [(q6, .inl (cj_cA X 0, 12, .inl (fun _ => 0)))])) C cfX6 (by decide) wd270 rfl rfl rfl (by decide) rfl rfl dX6_init_85 ?_
  exact cj_ret (ad := (fun k => if k < 1 then a else if k < 5 then ad1 (k - 1) else if k < 8 then ad2 (k - 5) else if k < 9 then q3 else if k < 10 then q4 else if k < 11 then q5 else if k < 12 then q6 else 0)) C K rfl rfl rfl rfl dX6_init_88
theorem dX8_init_0 : decode cX8_init 0 = .ok (.aload_n 0, 1) := by decide +kernel
theorem dX8_init_1 : decode cX8_init 1 = .ok (.invokespecial 3, 3) := by decide +kernel
theorem dX8_init_4 : decode cX8_init 4 = .ok (.aload_n 0, 1) := by decide +kernel
theorem dX8_init_5 : decode cX8_init 5 = .ok (.iconst 0, 1) := by decide +kernel
theorem dX8_init_6 : decode cX8_init 6 = .ok (.putfield 9, 3) := by decide +kernel
theorem dX8_init_9 : decode cX8_init 9 = .ok (.aload_n 0, 1) := by decide +kernel
theorem dX8_init_10 : decode cX8_init 10 = .ok (.iconst 0, 1) := by decide +kernel
theorem dX8_init_11 : decode cX8_init 11 = .ok (.putfield 15, 3) := by decide +kernel
theorem dX8_init_14 : decode cX8_init 14 = .ok (.aload_n 0, 1) := by decide +kernel
theorem dX8_init_15 : decode cX8_init 15 = .ok (.bipush 60, 2) := by decide +kernel
theorem dX8_init_17 : decode cX8_init 17 = .ok (.newarray .int, 2) := by decide +kernel
theorem dX8_init_19 : decode cX8_init 19 = .ok (.putfield 19, 3) := by decide +kernel
theorem dX8_init_22 : decode cX8_init 22 = .ok (.aload_n 0, 1) := by decide +kernel
theorem dX8_init_23 : decode cX8_init 23 = .ok (.new 23, 3) := by decide +kernel
theorem dX8_init_26 : decode cX8_init 26 = .ok (.dup, 1) := by decide +kernel
theorem dX8_init_27 : decode cX8_init 27 = .ok (.invokespecial 25, 3) := by decide +kernel
theorem dX8_init_30 : decode cX8_init 30 = .ok (.putfield 26, 3) := by decide +kernel
theorem dX8_init_33 : decode cX8_init 33 = .ok (.aload_n 0, 1) := by decide +kernel
theorem dX8_init_34 : decode cX8_init 34 = .ok (.sipush 3600, 3) := by decide +kernel
theorem dX8_init_37 : decode cX8_init 37 = .ok (.newarray .int, 2) := by decide +kernel
theorem dX8_init_39 : decode cX8_init 39 = .ok (.putfield 30, 3) := by decide +kernel
theorem dX8_init_42 : decode cX8_init 42 = .ok (.aload_n 0, 1) := by decide +kernel
theorem dX8_init_43 : decode cX8_init 43 = .ok (.sipush 3600, 3) := by decide +kernel
theorem dX8_init_46 : decode cX8_init 46 = .ok (.newarray .int, 2) := by decide +kernel
theorem dX8_init_48 : decode cX8_init 48 = .ok (.putfield 33, 3) := by decide +kernel
theorem dX8_init_51 : decode cX8_init 51 = .ok (.aload_n 0, 1) := by decide +kernel
theorem dX8_init_52 : decode cX8_init 52 = .ok (.bipush 60, 2) := by decide +kernel
theorem dX8_init_54 : decode cX8_init 54 = .ok (.newarray .int, 2) := by decide +kernel
theorem dX8_init_56 : decode cX8_init 56 = .ok (.putfield 36, 3) := by decide +kernel
theorem dX8_init_59 : decode cX8_init 59 = .ok (.aload_n 0, 1) := by decide +kernel
theorem dX8_init_60 : decode cX8_init 60 = .ok (.bipush 60, 2) := by decide +kernel
theorem dX8_init_62 : decode cX8_init 62 = .ok (.newarray .int, 2) := by decide +kernel
theorem dX8_init_64 : decode cX8_init 64 = .ok (.putfield 39, 3) := by decide +kernel
theorem dX8_init_67 : decode cX8_init 67 = .ok (.aload_n 0, 1) := by decide +kernel
theorem dX8_init_68 : decode cX8_init 68 = .ok (.bipush 6, 2) := by decide +kernel
theorem dX8_init_70 : decode cX8_init 70 = .ok (.newarray .int, 2) := by decide +kernel
theorem dX8_init_72 : decode cX8_init 72 = .ok (.putfield 42, 3) := by decide +kernel
theorem dX8_init_75 : decode cX8_init 75 = .ok (.aload_n 0, 1) := by decide +kernel
theorem dX8_init_76 : decode cX8_init 76 = .ok (.lconst 0, 1) := by decide +kernel
theorem dX8_init_77 : decode cX8_init 77 = .ok (.putfield 45, 3) := by decide +kernel
theorem dX8_init_80 : decode cX8_init 80 = .ok (.return_, 1) := by decide +kernel
def bX8 : cj_B := fun cA ad => ((((((([(ad 0, .inr (8, [.int (Int32.ofInt 0), .int (Int32.ofInt 0), .ref (ad 1), .ref (ad 2), .ref (ad 15), .ref (ad 16), .ref (ad 17), .ref (ad 18), .ref (ad 19), .long 0]))] ++ [(ad 1, .inl (cA 0, 60, .inl (fun _ => 0)))]) ++ bX5 cA (fun k => ad (2 + k))) ++ [(ad 15, .inl (cA 0, 3600, .inl (fun _ => 0)))]) ++ [(ad 16, .inl (cA 0, 3600, .inl (fun _ => 0)))]) ++ [(ad 17, .inl (cA 0, 60, .inl (fun _ => 0)))]) ++ [(ad 18, .inl (cA 0, 60, .inl (fun _ => 0)))]) ++ [(ad 19, .inl (cA 0, 6, .inl (fun _ => 0)))])
set_option maxHeartbeats 4000000 in
set_option maxRecDepth 100000 in
theorem kX8_init {n : Nat} : cj_Ct (n + 2) yX8_init cX8_init 1 8 19 8773 [.int 0, .int 0, .null, .null, .null, .null, .null, .null, .null, .long 0] bX8 := by
  refine cj_met (by decide +kernel) rfl (by decide) (fun X a C K => ?_)
  refine cj_aload0 C dX8_init_0 rfl ?_
  refine cj_objInit C wd387 wd158 wd159 dX8_init_1 ?_
  refine cj_aload0 C dX8_init_4 rfl ?_
  refine cj_iconst (z := 0) C dX8_init_5 ?_
  refine cj_put (fs := [.int 0, .int 0, .null, .null, .null, .null, .null, .null, .null, .long 0]) (j := 0) (ws' := [(a, .inr (8, [.int (Int32.ofInt 0), .int 0, .null, .null, .null, .null, .null, .null, .null, .long 0]))]) C cfX8 (by decide) wd458 rfl rfl rfl (by decide) rfl rfl dX8_init_6 ?_
  refine cj_aload0 C dX8_init_9 rfl ?_
  refine cj_iconst (z := 0) C dX8_init_10 ?_
  refine cj_put (fs := [.int (Int32.ofInt 0), .int 0, .null, .null, .null, .null, .null, .null, .null, .long 0]) (j := 1) (ws' := [(a, .inr (8, [.int (Int32.ofInt 0), .int (Int32.ofInt 0), .null, .null, .null, .null, .null, .null, .null, .long 0]))]) C cfX8 (by decide) wd460 rfl rfl rfl (by decide) rfl rfl dX8_init_11 ?_
  refine cj_aload0 C dX8_init_14 rfl ?_
  refine cj_bipush (z := 60) C dX8_init_15 (by decide) ?_
  refine cj_newarr (e := 0) (N := 60) (a0 := .inl (fun _ => 0)) C wd200 rfl (fun _ => rfl) (fun _ _ _ h1 h2 => Option.some.inj (h1.symm.trans h2)) (fun _ => rfl) rfl (by decide) (by decide) (by decide) (by decide) dX8_init_17 (fun q1 => ?_)
  refine cj_put (fs := [.int (Int32.ofInt 0), .int (Int32.ofInt 0), .null, .null, .null, .null, .null, .null, .null, .long 0]) (j := 2) (ws' := ([(a, .inr (8, [.int (Int32.ofInt 0), .int (Int32.ofInt 0), .ref q1, .null, .null, .null, .null, .null, .null, .long 0]))] ++ [(q1, .inl (cj_cA X 0, 60, .inl (fun _ => 0)))])) C cfX8 (by decide) wd462 rfl rfl rfl (by decide) rfl rfl dX8_init_19 ?_
  refine cj_aload0 C dX8_init_22 rfl ?_
  refine cj_newi C cfX5 wd388 wd389 wd138 (by decide) (kX5_init) (by decide) (by decide +kernel) (Or.inr ⟨"CageLift", List.mem_of_getElem? (i := 7) rfl⟩) wd391 wd392 (Nat.le_of_ble_eq_true rfl) (by decide) (by decide) dX8_init_23 dX8_init_26 dX8_init_27 (fun ad2 => ?_)
  refine cj_put (fs := [.int (Int32.ofInt 0), .int (Int32.ofInt 0), .ref q1, .null, .null, .null, .null, .null, .null, .long 0]) (j := 3) (ws' := (([(a, .inr (8, [.int (Int32.ofInt 0), .int (Int32.ofInt 0), .ref q1, .ref (ad2 0), .null, .null, .null, .null, .null, .long 0]))] ++ [(q1, .inl (cj_cA X 0, 60, .inl (fun _ => 0)))]) ++ bX5 (cj_cA X) ad2)) C cfX8 (by decide) wd464 rfl rfl rfl (by decide) rfl rfl dX8_init_30 ?_
  refine cj_aload0 C dX8_init_33 rfl ?_
  refine cj_sipush (z := 3600) C dX8_init_34 (by decide) ?_
  refine cj_newarr (e := 0) (N := 3600) (a0 := .inl (fun _ => 0)) C wd200 rfl (fun _ => rfl) (fun _ _ _ h1 h2 => Option.some.inj (h1.symm.trans h2)) (fun _ => rfl) rfl (by decide) (by decide) (by decide) (by decide) dX8_init_37 (fun q3 => ?_)
  refine cj_put (fs := [.int (Int32.ofInt 0), .int (Int32.ofInt 0), .ref q1, .ref (ad2 0), .null, .null, .null, .null, .null, .long 0]) (j := 4) (ws' := ((([(a, .inr (8, [.int (Int32.ofInt 0), .int (Int32.ofInt 0), .ref q1, .ref (ad2 0), .ref q3, .null, .null, .null, .null, .long 0]))] ++ [(q1, .inl (cj_cA X 0, 60, .inl (fun _ => 0)))]) ++ bX5 (cj_cA X) ad2) ++ [(q3, .inl (cj_cA X 0, 3600, .inl (fun _ => 0)))])) C cfX8 (by decide) wd466 rfl rfl rfl (by decide) rfl rfl dX8_init_39 ?_
  refine cj_aload0 C dX8_init_42 rfl ?_
  refine cj_sipush (z := 3600) C dX8_init_43 (by decide) ?_
  refine cj_newarr (e := 0) (N := 3600) (a0 := .inl (fun _ => 0)) C wd200 rfl (fun _ => rfl) (fun _ _ _ h1 h2 => Option.some.inj (h1.symm.trans h2)) (fun _ => rfl) rfl (by decide) (by decide) (by decide) (by decide) dX8_init_46 (fun q4 => ?_)
  refine cj_put (fs := [.int (Int32.ofInt 0), .int (Int32.ofInt 0), .ref q1, .ref (ad2 0), .ref q3, .null, .null, .null, .null, .long 0]) (j := 5) (ws' := (((([(a, .inr (8, [.int (Int32.ofInt 0), .int (Int32.ofInt 0), .ref q1, .ref (ad2 0), .ref q3, .ref q4, .null, .null, .null, .long 0]))] ++ [(q1, .inl (cj_cA X 0, 60, .inl (fun _ => 0)))]) ++ bX5 (cj_cA X) ad2) ++ [(q3, .inl (cj_cA X 0, 3600, .inl (fun _ => 0)))]) ++ [(q4, .inl (cj_cA X 0, 3600, .inl (fun _ => 0)))])) C cfX8 (by decide) wd467 rfl rfl rfl (by decide) rfl rfl dX8_init_48 ?_
  refine cj_aload0 C dX8_init_51 rfl ?_
  refine cj_bipush (z := 60) C dX8_init_52 (by decide) ?_
  refine cj_newarr (e := 0) (N := 60) (a0 := .inl (fun _ => 0)) C wd200 rfl (fun _ => rfl) (fun _ _ _ h1 h2 => Option.some.inj (h1.symm.trans h2)) (fun _ => rfl) rfl (by decide) (by decide) (by decide) (by decide) dX8_init_54 (fun q5 => ?_)
  refine cj_put (fs := [.int (Int32.ofInt 0), .int (Int32.ofInt 0), .ref q1, .ref (ad2 0), .ref q3, .ref q4, .null, .null, .null, .long 0]) (j := 6) (ws' := ((((([(a, .inr (8, [.int (Int32.ofInt 0), .int (Int32.ofInt 0), .ref q1, .ref (ad2 0), .ref q3, .ref q4, .ref q5, .null, .null, .long 0]))] ++ [(q1, .inl (cj_cA X 0, 60, .inl (fun _ => 0)))]) ++ bX5 (cj_cA X) ad2) ++ [(q3, .inl (cj_cA X 0, 3600, .inl (fun _ => 0)))]) ++ [(q4, .inl (cj_cA X 0, 3600, .inl (fun _ => 0)))]) ++ [(q5, .inl (cj_cA X 0, 60, .inl (fun _ => 0)))])) C cfX8 (by decide) wd468 rfl rfl rfl (by decide) rfl rfl dX8_init_56 ?_
  refine cj_aload0 C dX8_init_59 rfl ?_
  refine cj_bipush (z := 60) C dX8_init_60 (by decide) ?_
  refine cj_newarr (e := 0) (N := 60) (a0 := .inl (fun _ => 0)) C wd200 rfl (fun _ => rfl) (fun _ _ _ h1 h2 => Option.some.inj (h1.symm.trans h2)) (fun _ => rfl) rfl (by decide) (by decide) (by decide) (by decide) dX8_init_62 (fun q6 => ?_)
  refine cj_put (fs := [.int (Int32.ofInt 0), .int (Int32.ofInt 0), .ref q1, .ref (ad2 0), .ref q3, .ref q4, .ref q5, .null, .null, .long 0]) (j := 7) (ws' := (((((([(a, .inr (8, [.int (Int32.ofInt 0), .int (Int32.ofInt 0), .ref q1, .ref (ad2 0), .ref q3, .ref q4, .ref q5, .ref q6, .null, .long 0]))] ++ [(q1, .inl (cj_cA X 0, 60, .inl (fun _ => 0)))]) ++ bX5 (cj_cA X) ad2) ++ [(q3, .inl (cj_cA X 0, 3600, .inl (fun _ => 0)))]) ++ [(q4, .inl (cj_cA X 0, 3600, .inl (fun _ => 0)))]) ++ [(q5, .inl (cj_cA X 0, 60, .inl (fun _ => 0)))]) ++ [(q6, .inl (cj_cA X 0, 60, .inl (fun _ => 0)))])) C cfX8 (by decide) wd469 rfl rfl rfl (by decide) rfl rfl dX8_init_64 ?_
  refine cj_aload0 C dX8_init_67 rfl ?_
  refine cj_bipush (z := 6) C dX8_init_68 (by decide) ?_
  refine cj_newarr (e := 0) (N := 6) (a0 := .inl (fun _ => 0)) C wd200 rfl (fun _ => rfl) (fun _ _ _ h1 h2 => Option.some.inj (h1.symm.trans h2)) (fun _ => rfl) rfl (by decide) (by decide) (by decide) (by decide) dX8_init_70 (fun q7 => ?_)
  refine cj_put (fs := [.int (Int32.ofInt 0), .int (Int32.ofInt 0), .ref q1, .ref (ad2 0), .ref q3, .ref q4, .ref q5, .ref q6, .null, .long 0]) (j := 8) (ws' := ((((((([(a, .inr (8, [.int (Int32.ofInt 0), .int (Int32.ofInt 0), .ref q1, .ref (ad2 0), .ref q3, .ref q4, .ref q5, .ref q6, .ref q7, .long 0]))] ++ [(q1, .inl (cj_cA X 0, 60, .inl (fun _ => 0)))]) ++ bX5 (cj_cA X) ad2) ++ [(q3, .inl (cj_cA X 0, 3600, .inl (fun _ => 0)))]) ++ [(q4, .inl (cj_cA X 0, 3600, .inl (fun _ => 0)))]) ++ [(q5, .inl (cj_cA X 0, 60, .inl (fun _ => 0)))]) ++ [(q6, .inl (cj_cA X 0, 60, .inl (fun _ => 0)))]) ++ [(q7, .inl (cj_cA X 0, 6, .inl (fun _ => 0)))])) C cfX8 (by decide) wd470 rfl rfl rfl (by decide) rfl rfl dX8_init_72 ?_
  refine cj_aload0 C dX8_init_75 rfl ?_
  refine cj_lconst0 C dX8_init_76 ?_
  refine cj_put (fs := [.int (Int32.ofInt 0), .int (Int32.ofInt 0), .ref q1, .ref (ad2 0), .ref q3, .ref q4, .ref q5, .ref q6, .ref q7, .long 0]) (j := 9) (ws' := ((((((([(a, .inr (8, [.int (Int32.ofInt 0), .int (Int32.ofInt 0), .ref q1, .ref (ad2 0), .ref q3, .ref q4, .ref q5, .ref q6, .ref q7, .long 0]))] ++ [(q1, .inl (cj_cA X 0, 60, .inl (fun _ => 0)))]) ++ bX5 (cj_cA X) ad2) ++ [(q3, .inl (cj_cA X 0, 3600, .inl (fun _ => 0)))]) ++ [(q4, .inl (cj_cA X 0, 3600, .inl (fun _ => 0)))]) ++ [(q5, .inl (cj_cA X 0, 60, .inl (fun _ => 0)))]) ++ [(q6, .inl (cj_cA X 0, 60, .inl (fun _ => 0)))]) ++ [(q7, .inl (cj_cA X 0, 6, .inl (fun _ => 0)))])) C cfX8 (by decide) wd471 rfl rfl rfl (by decide) rfl rfl dX8_init_77 ?_
  exact cj_ret (ad := (fun k => if k < 1 then a else if k < 2 then q1 else if k < 15 then ad2 (k - 2) else if k < 16 then q3 else if k < 17 then q4 else if k < 18 then q5 else if k < 19 then q6 else if k < 20 then q7 else 0)) C K rfl rfl rfl rfl dX8_init_80
theorem dX1_init_0 : decode cX1_init 0 = .ok (.aload_n 0, 1) := by decide +kernel
theorem dX1_init_1 : decode cX1_init 1 = .ok (.invokespecial 3, 3) := by decide +kernel
theorem dX1_init_4 : decode cX1_init 4 = .ok (.aload_n 0, 1) := by decide +kernel
theorem dX1_init_5 : decode cX1_init 5 = .ok (.bipush 10, 2) := by decide +kernel
theorem dX1_init_7 : decode cX1_init 7 = .ok (.anewarray 9, 3) := by decide +kernel
theorem dX1_init_10 : decode cX1_init 10 = .ok (.putfield 11, 3) := by decide +kernel
theorem dX1_init_13 : decode cX1_init 13 = .ok (.aload_n 0, 1) := by decide +kernel
theorem dX1_init_14 : decode cX1_init 14 = .ok (.iconst 0, 1) := by decide +kernel
theorem dX1_init_15 : decode cX1_init 15 = .ok (.putfield 17, 3) := by decide +kernel
theorem dX1_init_18 : decode cX1_init 18 = .ok (.aload_n 0, 1) := by decide +kernel
theorem dX1_init_19 : decode cX1_init 19 = .ok (.iconst 0, 1) := by decide +kernel
theorem dX1_init_20 : decode cX1_init 20 = .ok (.putfield 21, 3) := by decide +kernel
theorem dX1_init_23 : decode cX1_init 23 = .ok (.iconst 0, 1) := by decide +kernel
theorem dX1_init_24 : decode cX1_init 24 = .ok (.istore_n 1, 1) := by decide +kernel
theorem dX1_init_25 : decode cX1_init 25 = .ok (.iload_n 1, 1) := by decide +kernel
theorem dX1_init_26 : decode cX1_init 26 = .ok (.bipush 10, 2) := by decide +kernel
theorem dX1_init_28 : decode cX1_init 28 = .ok (.if_icmp .ge 22, 3) := by decide +kernel
theorem dX1_init_31 : decode cX1_init 31 = .ok (.aload_n 0, 1) := by decide +kernel
theorem dX1_init_32 : decode cX1_init 32 = .ok (.getfield 11, 3) := by decide +kernel
theorem dX1_init_35 : decode cX1_init 35 = .ok (.iload_n 1, 1) := by decide +kernel
theorem dX1_init_36 : decode cX1_init 36 = .ok (.new 9, 3) := by decide +kernel
theorem dX1_init_39 : decode cX1_init 39 = .ok (.dup, 1) := by decide +kernel
theorem dX1_init_40 : decode cX1_init 40 = .ok (.invokespecial 24, 3) := by decide +kernel
theorem dX1_init_43 : decode cX1_init 43 = .ok (.aastore, 1) := by decide +kernel
theorem dX1_init_44 : decode cX1_init 44 = .ok (.iinc 1 1, 3) := by decide +kernel
theorem dX1_init_47 : decode cX1_init 47 = .ok (.goto (-22), 3) := by decide +kernel
theorem dX1_init_50 : decode cX1_init 50 = .ok (.return_, 1) := by decide +kernel
def bX1 : cj_B := fun cA ad => ((((((((((([(ad 0, .inr (1, [.ref (ad 1), .int (Int32.ofInt 0), .int (Int32.ofInt 0)]))] ++ [(ad 1, .inl (cA 4, 10, .inr (.inr (.inr (.inr (fun k => if k = 9 then some (ad 20) else (fun k => if k = 8 then some (ad 18) else (fun k => if k = 7 then some (ad 16) else (fun k => if k = 6 then some (ad 14) else (fun k => if k = 5 then some (ad 12) else (fun k => if k = 4 then some (ad 10) else (fun k => if k = 3 then some (ad 8) else (fun k => if k = 2 then some (ad 6) else (fun k => if k = 1 then some (ad 4) else (fun k => if k = 0 then some (ad 2) else (fun _ => none) k) k) k) k) k) k) k) k) k) k))))))]) ++ bX9 cA (fun k => ad (2 + k))) ++ bX9 cA (fun k => ad (4 + k))) ++ bX9 cA (fun k => ad (6 + k))) ++ bX9 cA (fun k => ad (8 + k))) ++ bX9 cA (fun k => ad (10 + k))) ++ bX9 cA (fun k => ad (12 + k))) ++ bX9 cA (fun k => ad (14 + k))) ++ bX9 cA (fun k => ad (16 + k))) ++ bX9 cA (fun k => ad (18 + k))) ++ bX9 cA (fun k => ad (20 + k)))
set_option maxHeartbeats 4000000 in
set_option maxRecDepth 100000 in
theorem kX1_init {n : Nat} : cj_Ct (n + 2) yX1_init cX1_init 2 1 21 160 [.null, .int 0, .int 0] bX1 := by
  refine cj_met (by decide +kernel) rfl (by decide) (fun X a C K => ?_)
  refine cj_aload0 C dX1_init_0 rfl ?_
  refine cj_objInit C wd363 wd158 wd159 dX1_init_1 ?_
  refine cj_aload0 C dX1_init_4 rfl ?_
  refine cj_bipush (z := 10) C dX1_init_5 (by decide) ?_
  refine cj_anew (e := 4) (N := 10) C wd364 (fun _ h => h.2.1) (fun _ => rfl) rfl (by decide) (by decide) (by decide) dX1_init_7 (fun q1 => ?_)
  refine cj_put (fs := [.null, .int 0, .int 0]) (j := 0) (ws' := ([(a, .inr (1, [.ref q1, .int 0, .int 0]))] ++ [(q1, .inl (cj_cA X 4, 10, .inr (.inr (.inr (.inr (fun _ => none))))))])) C cfX1 (by decide) wd367 rfl rfl rfl (by decide) rfl rfl dX1_init_10 ?_
  refine cj_aload0 C dX1_init_13 rfl ?_
  refine cj_iconst (z := 0) C dX1_init_14 ?_
  refine cj_put (fs := [.ref q1, .int 0, .int 0]) (j := 1) (ws' := ([(a, .inr (1, [.ref q1, .int (Int32.ofInt 0), .int 0]))] ++ [(q1, .inl (cj_cA X 4, 10, .inr (.inr (.inr (.inr (fun _ => none))))))])) C cfX1 (by decide) wd368 rfl rfl rfl (by decide) rfl rfl dX1_init_15 ?_
  refine cj_aload0 C dX1_init_18 rfl ?_
  refine cj_iconst (z := 0) C dX1_init_19 ?_
  refine cj_put (fs := [.ref q1, .int (Int32.ofInt 0), .int 0]) (j := 2) (ws' := ([(a, .inr (1, [.ref q1, .int (Int32.ofInt 0), .int (Int32.ofInt 0)]))] ++ [(q1, .inl (cj_cA X 4, 10, .inr (.inr (.inr (.inr (fun _ => none))))))])) C cfX1 (by decide) wd369 rfl rfl rfl (by decide) rfl rfl dX1_init_20 ?_
  refine cj_iconst (z := 0) C dX1_init_23 ?_
  refine cj_istore1 (a := a) (x := 0) C dX1_init_24 (by decide) (Or.inl rfl) ?_
  refine cj_iload1 C dX1_init_25 ?_
  refine cj_bipush (z := 10) C dX1_init_26 (by decide) ?_
  refine cj_ge_f (tgt := 50) C dX1_init_28 (by decide) (by decide) (by decide) (by decide) ?_
  refine cj_aload0 C dX1_init_31 rfl ?_
  refine cj_getr (fs := [.ref q1, .int (Int32.ofInt 0), .int (Int32.ofInt 0)]) (j := 0) (v := .ref q1) C cfX1 (by decide) wd367 rfl rfl dX1_init_32 ?_
  refine cj_iload1 C dX1_init_35 ?_
  refine cj_newi C cfX9 wd364 wd338 wd135 (by decide) (kX9_init) (by decide) (by decide +kernel) (Or.inr ⟨"CageLift", List.mem_of_getElem? (i := 5) rfl⟩) wd340 wd341 (Nat.le_of_ble_eq_true rfl) (by decide) (by decide) dX1_init_36 dX1_init_39 dX1_init_40 (fun ad2 => ?_)
  refine cj_aast (ws' := (([(a, .inr (1, [.ref q1, .int (Int32.ofInt 0), .int (Int32.ofInt 0)]))] ++ [(q1, .inl (cj_cA X 4, 10, .inr (.inr (.inr (.inr (fun k => if k = 0 then some (ad2 0) else (fun _ => none) k))))))]) ++ bX9 (cj_cA X) ad2)) (g := (fun k => if k = 0 then some (ad2 0) else (fun _ => none) k)) C 1 2 cfX9 (fun _ => rfl) rfl rfl (by decide) (by decide) (by funext k; simp [va_up]) rfl dX1_init_43 ?_
  refine cj_iinc1 (y := 1) C dX1_init_44 (by decide) (by decide) ?_
  refine cj_goto (tgt := 25) C dX1_init_47 (by decide) ?_
  refine cj_iload1 C dX1_init_25 ?_
  refine cj_bipush (z := 10) C dX1_init_26 (by decide) ?_
  refine cj_ge_f (tgt := 50) C dX1_init_28 (by decide) (by decide) (by decide) (by decide) ?_
  refine cj_aload0 C dX1_init_31 rfl ?_
  refine cj_getr (fs := [.ref q1, .int (Int32.ofInt 0), .int (Int32.ofInt 0)]) (j := 0) (v := .ref q1) C cfX1 (by decide) wd367 rfl rfl dX1_init_32 ?_
  refine cj_iload1 C dX1_init_35 ?_
  refine cj_newi C cfX9 wd364 wd338 wd135 (by decide) (kX9_init) (by decide) (by decide +kernel) (Or.inr ⟨"CageLift", List.mem_of_getElem? (i := 5) rfl⟩) wd340 wd341 (Nat.le_of_ble_eq_true rfl) (by decide) (by decide) dX1_init_36 dX1_init_39 dX1_init_40 (fun ad3 => ?_)
  refine cj_aast (ws' := ((([(a, .inr (1, [.ref q1, .int (Int32.ofInt 0), .int (Int32.ofInt 0)]))] ++ [(q1, .inl (cj_cA X 4, 10, .inr (.inr (.inr (.inr (fun k => if k = 1 then some (ad3 0) else (fun k => if k = 0 then some (ad2 0) else (fun _ => none) k) k))))))]) ++ bX9 (cj_cA X) ad2) ++ bX9 (cj_cA X) ad3)) (g := (fun k => if k = 1 then some (ad3 0) else (fun k => if k = 0 then some (ad2 0) else (fun _ => none) k) k)) C 1 4 cfX9 (fun _ => rfl) rfl rfl (by decide) (by decide) (by funext k; simp [va_up]) rfl dX1_init_43 ?_
  refine cj_iinc1 (y := 2) C dX1_init_44 (by decide) (by decide) ?_
  refine cj_goto (tgt := 25) C dX1_init_47 (by decide) ?_
  refine cj_iload1 C dX1_init_25 ?_
  refine cj_bipush (z := 10) C dX1_init_26 (by decide) ?_
  refine cj_ge_f (tgt := 50) C dX1_init_28 (by decide) (by decide) (by decide) (by decide) ?_
  refine cj_aload0 C dX1_init_31 rfl ?_
  refine cj_getr (fs := [.ref q1, .int (Int32.ofInt 0), .int (Int32.ofInt 0)]) (j := 0) (v := .ref q1) C cfX1 (by decide) wd367 rfl rfl dX1_init_32 ?_
  refine cj_iload1 C dX1_init_35 ?_
  refine cj_newi C cfX9 wd364 wd338 wd135 (by decide) (kX9_init) (by decide) (by decide +kernel) (Or.inr ⟨"CageLift", List.mem_of_getElem? (i := 5) rfl⟩) wd340 wd341 (Nat.le_of_ble_eq_true rfl) (by decide) (by decide) dX1_init_36 dX1_init_39 dX1_init_40 (fun ad4 => ?_)
  refine cj_aast (ws' := (((([(a, .inr (1, [.ref q1, .int (Int32.ofInt 0), .int (Int32.ofInt 0)]))] ++ [(q1, .inl (cj_cA X 4, 10, .inr (.inr (.inr (.inr (fun k => if k = 2 then some (ad4 0) else (fun k => if k = 1 then some (ad3 0) else (fun k => if k = 0 then some (ad2 0) else (fun _ => none) k) k) k))))))]) ++ bX9 (cj_cA X) ad2) ++ bX9 (cj_cA X) ad3) ++ bX9 (cj_cA X) ad4)) (g := (fun k => if k = 2 then some (ad4 0) else (fun k => if k = 1 then some (ad3 0) else (fun k => if k = 0 then some (ad2 0) else (fun _ => none) k) k) k)) C 1 6 cfX9 (fun _ => rfl) rfl rfl (by decide) (by decide) (by funext k; simp [va_up]) rfl dX1_init_43 ?_
  refine cj_iinc1 (y := 3) C dX1_init_44 (by decide) (by decide) ?_
  refine cj_goto (tgt := 25) C dX1_init_47 (by decide) ?_
  refine cj_iload1 C dX1_init_25 ?_
  refine cj_bipush (z := 10) C dX1_init_26 (by decide) ?_
  refine cj_ge_f (tgt := 50) C dX1_init_28 (by decide) (by decide) (by decide) (by decide) ?_
  refine cj_aload0 C dX1_init_31 rfl ?_
  refine cj_getr (fs := [.ref q1, .int (Int32.ofInt 0), .int (Int32.ofInt 0)]) (j := 0) (v := .ref q1) C cfX1 (by decide) wd367 rfl rfl dX1_init_32 ?_
  refine cj_iload1 C dX1_init_35 ?_
  refine cj_newi C cfX9 wd364 wd338 wd135 (by decide) (kX9_init) (by decide) (by decide +kernel) (Or.inr ⟨"CageLift", List.mem_of_getElem? (i := 5) rfl⟩) wd340 wd341 (Nat.le_of_ble_eq_true rfl) (by decide) (by decide) dX1_init_36 dX1_init_39 dX1_init_40 (fun ad5 => ?_)
  refine cj_aast (ws' := ((((([(a, .inr (1, [.ref q1, .int (Int32.ofInt 0), .int (Int32.ofInt 0)]))] ++ [(q1, .inl (cj_cA X 4, 10, .inr (.inr (.inr (.inr (fun k => if k = 3 then some (ad5 0) else (fun k => if k = 2 then some (ad4 0) else (fun k => if k = 1 then some (ad3 0) else (fun k => if k = 0 then some (ad2 0) else (fun _ => none) k) k) k) k))))))]) ++ bX9 (cj_cA X) ad2) ++ bX9 (cj_cA X) ad3) ++ bX9 (cj_cA X) ad4) ++ bX9 (cj_cA X) ad5)) (g := (fun k => if k = 3 then some (ad5 0) else (fun k => if k = 2 then some (ad4 0) else (fun k => if k = 1 then some (ad3 0) else (fun k => if k = 0 then some (ad2 0) else (fun _ => none) k) k) k) k)) C 1 8 cfX9 (fun _ => rfl) rfl rfl (by decide) (by decide) (by funext k; simp [va_up]) rfl dX1_init_43 ?_
  refine cj_iinc1 (y := 4) C dX1_init_44 (by decide) (by decide) ?_
  refine cj_goto (tgt := 25) C dX1_init_47 (by decide) ?_
  refine cj_iload1 C dX1_init_25 ?_
  refine cj_bipush (z := 10) C dX1_init_26 (by decide) ?_
  refine cj_ge_f (tgt := 50) C dX1_init_28 (by decide) (by decide) (by decide) (by decide) ?_
  refine cj_aload0 C dX1_init_31 rfl ?_
  refine cj_getr (fs := [.ref q1, .int (Int32.ofInt 0), .int (Int32.ofInt 0)]) (j := 0) (v := .ref q1) C cfX1 (by decide) wd367 rfl rfl dX1_init_32 ?_
  refine cj_iload1 C dX1_init_35 ?_
  refine cj_newi C cfX9 wd364 wd338 wd135 (by decide) (kX9_init) (by decide) (by decide +kernel) (Or.inr ⟨"CageLift", List.mem_of_getElem? (i := 5) rfl⟩) wd340 wd341 (Nat.le_of_ble_eq_true rfl) (by decide) (by decide) dX1_init_36 dX1_init_39 dX1_init_40 (fun ad6 => ?_)
  refine cj_aast (ws' := (((((([(a, .inr (1, [.ref q1, .int (Int32.ofInt 0), .int (Int32.ofInt 0)]))] ++ [(q1, .inl (cj_cA X 4, 10, .inr (.inr (.inr (.inr (fun k => if k = 4 then some (ad6 0) else (fun k => if k = 3 then some (ad5 0) else (fun k => if k = 2 then some (ad4 0) else (fun k => if k = 1 then some (ad3 0) else (fun k => if k = 0 then some (ad2 0) else (fun _ => none) k) k) k) k) k))))))]) ++ bX9 (cj_cA X) ad2) ++ bX9 (cj_cA X) ad3) ++ bX9 (cj_cA X) ad4) ++ bX9 (cj_cA X) ad5) ++ bX9 (cj_cA X) ad6)) (g := (fun k => if k = 4 then some (ad6 0) else (fun k => if k = 3 then some (ad5 0) else (fun k => if k = 2 then some (ad4 0) else (fun k => if k = 1 then some (ad3 0) else (fun k => if k = 0 then some (ad2 0) else (fun _ => none) k) k) k) k) k)) C 1 10 cfX9 (fun _ => rfl) rfl rfl (by decide) (by decide) (by funext k; simp [va_up]) rfl dX1_init_43 ?_
  refine cj_iinc1 (y := 5) C dX1_init_44 (by decide) (by decide) ?_
  refine cj_goto (tgt := 25) C dX1_init_47 (by decide) ?_
  refine cj_iload1 C dX1_init_25 ?_
  refine cj_bipush (z := 10) C dX1_init_26 (by decide) ?_
  refine cj_ge_f (tgt := 50) C dX1_init_28 (by decide) (by decide) (by decide) (by decide) ?_
  refine cj_aload0 C dX1_init_31 rfl ?_
  refine cj_getr (fs := [.ref q1, .int (Int32.ofInt 0), .int (Int32.ofInt 0)]) (j := 0) (v := .ref q1) C cfX1 (by decide) wd367 rfl rfl dX1_init_32 ?_
  refine cj_iload1 C dX1_init_35 ?_
  refine cj_newi C cfX9 wd364 wd338 wd135 (by decide) (kX9_init) (by decide) (by decide +kernel) (Or.inr ⟨"CageLift", List.mem_of_getElem? (i := 5) rfl⟩) wd340 wd341 (Nat.le_of_ble_eq_true rfl) (by decide) (by decide) dX1_init_36 dX1_init_39 dX1_init_40 (fun ad7 => ?_)
  refine cj_aast (ws' := ((((((([(a, .inr (1, [.ref q1, .int (Int32.ofInt 0), .int (Int32.ofInt 0)]))] ++ [(q1, .inl (cj_cA X 4, 10, .inr (.inr (.inr (.inr (fun k => if k = 5 then some (ad7 0) else (fun k => if k = 4 then some (ad6 0) else (fun k => if k = 3 then some (ad5 0) else (fun k => if k = 2 then some (ad4 0) else (fun k => if k = 1 then some (ad3 0) else (fun k => if k = 0 then some (ad2 0) else (fun _ => none) k) k) k) k) k) k))))))]) ++ bX9 (cj_cA X) ad2) ++ bX9 (cj_cA X) ad3) ++ bX9 (cj_cA X) ad4) ++ bX9 (cj_cA X) ad5) ++ bX9 (cj_cA X) ad6) ++ bX9 (cj_cA X) ad7)) (g := (fun k => if k = 5 then some (ad7 0) else (fun k => if k = 4 then some (ad6 0) else (fun k => if k = 3 then some (ad5 0) else (fun k => if k = 2 then some (ad4 0) else (fun k => if k = 1 then some (ad3 0) else (fun k => if k = 0 then some (ad2 0) else (fun _ => none) k) k) k) k) k) k)) C 1 12 cfX9 (fun _ => rfl) rfl rfl (by decide) (by decide) (by funext k; simp [va_up]) rfl dX1_init_43 ?_
  refine cj_iinc1 (y := 6) C dX1_init_44 (by decide) (by decide) ?_
  refine cj_goto (tgt := 25) C dX1_init_47 (by decide) ?_
  refine cj_iload1 C dX1_init_25 ?_
  refine cj_bipush (z := 10) C dX1_init_26 (by decide) ?_
  refine cj_ge_f (tgt := 50) C dX1_init_28 (by decide) (by decide) (by decide) (by decide) ?_
  refine cj_aload0 C dX1_init_31 rfl ?_
  refine cj_getr (fs := [.ref q1, .int (Int32.ofInt 0), .int (Int32.ofInt 0)]) (j := 0) (v := .ref q1) C cfX1 (by decide) wd367 rfl rfl dX1_init_32 ?_
  refine cj_iload1 C dX1_init_35 ?_
  refine cj_newi C cfX9 wd364 wd338 wd135 (by decide) (kX9_init) (by decide) (by decide +kernel) (Or.inr ⟨"CageLift", List.mem_of_getElem? (i := 5) rfl⟩) wd340 wd341 (Nat.le_of_ble_eq_true rfl) (by decide) (by decide) dX1_init_36 dX1_init_39 dX1_init_40 (fun ad8 => ?_)
  refine cj_aast (ws' := (((((((([(a, .inr (1, [.ref q1, .int (Int32.ofInt 0), .int (Int32.ofInt 0)]))] ++ [(q1, .inl (cj_cA X 4, 10, .inr (.inr (.inr (.inr (fun k => if k = 6 then some (ad8 0) else (fun k => if k = 5 then some (ad7 0) else (fun k => if k = 4 then some (ad6 0) else (fun k => if k = 3 then some (ad5 0) else (fun k => if k = 2 then some (ad4 0) else (fun k => if k = 1 then some (ad3 0) else (fun k => if k = 0 then some (ad2 0) else (fun _ => none) k) k) k) k) k) k) k))))))]) ++ bX9 (cj_cA X) ad2) ++ bX9 (cj_cA X) ad3) ++ bX9 (cj_cA X) ad4) ++ bX9 (cj_cA X) ad5) ++ bX9 (cj_cA X) ad6) ++ bX9 (cj_cA X) ad7) ++ bX9 (cj_cA X) ad8)) (g := (fun k => if k = 6 then some (ad8 0) else (fun k => if k = 5 then some (ad7 0) else (fun k => if k = 4 then some (ad6 0) else (fun k => if k = 3 then some (ad5 0) else (fun k => if k = 2 then some (ad4 0) else (fun k => if k = 1 then some (ad3 0) else (fun k => if k = 0 then some (ad2 0) else (fun _ => none) k) k) k) k) k) k) k)) C 1 14 cfX9 (fun _ => rfl) rfl rfl (by decide) (by decide) (by funext k; simp [va_up]) rfl dX1_init_43 ?_
  refine cj_iinc1 (y := 7) C dX1_init_44 (by decide) (by decide) ?_
  refine cj_goto (tgt := 25) C dX1_init_47 (by decide) ?_
  refine cj_iload1 C dX1_init_25 ?_
  refine cj_bipush (z := 10) C dX1_init_26 (by decide) ?_
  refine cj_ge_f (tgt := 50) C dX1_init_28 (by decide) (by decide) (by decide) (by decide) ?_
  refine cj_aload0 C dX1_init_31 rfl ?_
  refine cj_getr (fs := [.ref q1, .int (Int32.ofInt 0), .int (Int32.ofInt 0)]) (j := 0) (v := .ref q1) C cfX1 (by decide) wd367 rfl rfl dX1_init_32 ?_
  refine cj_iload1 C dX1_init_35 ?_
  refine cj_newi C cfX9 wd364 wd338 wd135 (by decide) (kX9_init) (by decide) (by decide +kernel) (Or.inr ⟨"CageLift", List.mem_of_getElem? (i := 5) rfl⟩) wd340 wd341 (Nat.le_of_ble_eq_true rfl) (by decide) (by decide) dX1_init_36 dX1_init_39 dX1_init_40 (fun ad9 => ?_)
  refine cj_aast (ws' := ((((((((([(a, .inr (1, [.ref q1, .int (Int32.ofInt 0), .int (Int32.ofInt 0)]))] ++ [(q1, .inl (cj_cA X 4, 10, .inr (.inr (.inr (.inr (fun k => if k = 7 then some (ad9 0) else (fun k => if k = 6 then some (ad8 0) else (fun k => if k = 5 then some (ad7 0) else (fun k => if k = 4 then some (ad6 0) else (fun k => if k = 3 then some (ad5 0) else (fun k => if k = 2 then some (ad4 0) else (fun k => if k = 1 then some (ad3 0) else (fun k => if k = 0 then some (ad2 0) else (fun _ => none) k) k) k) k) k) k) k) k))))))]) ++ bX9 (cj_cA X) ad2) ++ bX9 (cj_cA X) ad3) ++ bX9 (cj_cA X) ad4) ++ bX9 (cj_cA X) ad5) ++ bX9 (cj_cA X) ad6) ++ bX9 (cj_cA X) ad7) ++ bX9 (cj_cA X) ad8) ++ bX9 (cj_cA X) ad9)) (g := (fun k => if k = 7 then some (ad9 0) else (fun k => if k = 6 then some (ad8 0) else (fun k => if k = 5 then some (ad7 0) else (fun k => if k = 4 then some (ad6 0) else (fun k => if k = 3 then some (ad5 0) else (fun k => if k = 2 then some (ad4 0) else (fun k => if k = 1 then some (ad3 0) else (fun k => if k = 0 then some (ad2 0) else (fun _ => none) k) k) k) k) k) k) k) k)) C 1 16 cfX9 (fun _ => rfl) rfl rfl (by decide) (by decide) (by funext k; simp [va_up]) rfl dX1_init_43 ?_
  refine cj_iinc1 (y := 8) C dX1_init_44 (by decide) (by decide) ?_
  refine cj_goto (tgt := 25) C dX1_init_47 (by decide) ?_
  refine cj_iload1 C dX1_init_25 ?_
  refine cj_bipush (z := 10) C dX1_init_26 (by decide) ?_
  refine cj_ge_f (tgt := 50) C dX1_init_28 (by decide) (by decide) (by decide) (by decide) ?_
  refine cj_aload0 C dX1_init_31 rfl ?_
  refine cj_getr (fs := [.ref q1, .int (Int32.ofInt 0), .int (Int32.ofInt 0)]) (j := 0) (v := .ref q1) C cfX1 (by decide) wd367 rfl rfl dX1_init_32 ?_
  refine cj_iload1 C dX1_init_35 ?_
  refine cj_newi C cfX9 wd364 wd338 wd135 (by decide) (kX9_init) (by decide) (by decide +kernel) (Or.inr ⟨"CageLift", List.mem_of_getElem? (i := 5) rfl⟩) wd340 wd341 (Nat.le_of_ble_eq_true rfl) (by decide) (by decide) dX1_init_36 dX1_init_39 dX1_init_40 (fun ad10 => ?_)
  refine cj_aast (ws' := (((((((((([(a, .inr (1, [.ref q1, .int (Int32.ofInt 0), .int (Int32.ofInt 0)]))] ++ [(q1, .inl (cj_cA X 4, 10, .inr (.inr (.inr (.inr (fun k => if k = 8 then some (ad10 0) else (fun k => if k = 7 then some (ad9 0) else (fun k => if k = 6 then some (ad8 0) else (fun k => if k = 5 then some (ad7 0) else (fun k => if k = 4 then some (ad6 0) else (fun k => if k = 3 then some (ad5 0) else (fun k => if k = 2 then some (ad4 0) else (fun k => if k = 1 then some (ad3 0) else (fun k => if k = 0 then some (ad2 0) else (fun _ => none) k) k) k) k) k) k) k) k) k))))))]) ++ bX9 (cj_cA X) ad2) ++ bX9 (cj_cA X) ad3) ++ bX9 (cj_cA X) ad4) ++ bX9 (cj_cA X) ad5) ++ bX9 (cj_cA X) ad6) ++ bX9 (cj_cA X) ad7) ++ bX9 (cj_cA X) ad8) ++ bX9 (cj_cA X) ad9) ++ bX9 (cj_cA X) ad10)) (g := (fun k => if k = 8 then some (ad10 0) else (fun k => if k = 7 then some (ad9 0) else (fun k => if k = 6 then some (ad8 0) else (fun k => if k = 5 then some (ad7 0) else (fun k => if k = 4 then some (ad6 0) else (fun k => if k = 3 then some (ad5 0) else (fun k => if k = 2 then some (ad4 0) else (fun k => if k = 1 then some (ad3 0) else (fun k => if k = 0 then some (ad2 0) else (fun _ => none) k) k) k) k) k) k) k) k) k)) C 1 18 cfX9 (fun _ => rfl) rfl rfl (by decide) (by decide) (by funext k; simp [va_up]) rfl dX1_init_43 ?_
  refine cj_iinc1 (y := 9) C dX1_init_44 (by decide) (by decide) ?_
  refine cj_goto (tgt := 25) C dX1_init_47 (by decide) ?_
  refine cj_iload1 C dX1_init_25 ?_
  refine cj_bipush (z := 10) C dX1_init_26 (by decide) ?_
  refine cj_ge_f (tgt := 50) C dX1_init_28 (by decide) (by decide) (by decide) (by decide) ?_
  refine cj_aload0 C dX1_init_31 rfl ?_
  refine cj_getr (fs := [.ref q1, .int (Int32.ofInt 0), .int (Int32.ofInt 0)]) (j := 0) (v := .ref q1) C cfX1 (by decide) wd367 rfl rfl dX1_init_32 ?_
  refine cj_iload1 C dX1_init_35 ?_
  refine cj_newi C cfX9 wd364 wd338 wd135 (by decide) (kX9_init) (by decide) (by decide +kernel) (Or.inr ⟨"CageLift", List.mem_of_getElem? (i := 5) rfl⟩) wd340 wd341 (Nat.le_of_ble_eq_true rfl) (by decide) (by decide) dX1_init_36 dX1_init_39 dX1_init_40 (fun ad11 => ?_)
  refine cj_aast (ws' := ((((((((((([(a, .inr (1, [.ref q1, .int (Int32.ofInt 0), .int (Int32.ofInt 0)]))] ++ [(q1, .inl (cj_cA X 4, 10, .inr (.inr (.inr (.inr (fun k => if k = 9 then some (ad11 0) else (fun k => if k = 8 then some (ad10 0) else (fun k => if k = 7 then some (ad9 0) else (fun k => if k = 6 then some (ad8 0) else (fun k => if k = 5 then some (ad7 0) else (fun k => if k = 4 then some (ad6 0) else (fun k => if k = 3 then some (ad5 0) else (fun k => if k = 2 then some (ad4 0) else (fun k => if k = 1 then some (ad3 0) else (fun k => if k = 0 then some (ad2 0) else (fun _ => none) k) k) k) k) k) k) k) k) k) k))))))]) ++ bX9 (cj_cA X) ad2) ++ bX9 (cj_cA X) ad3) ++ bX9 (cj_cA X) ad4) ++ bX9 (cj_cA X) ad5) ++ bX9 (cj_cA X) ad6) ++ bX9 (cj_cA X) ad7) ++ bX9 (cj_cA X) ad8) ++ bX9 (cj_cA X) ad9) ++ bX9 (cj_cA X) ad10) ++ bX9 (cj_cA X) ad11)) (g := (fun k => if k = 9 then some (ad11 0) else (fun k => if k = 8 then some (ad10 0) else (fun k => if k = 7 then some (ad9 0) else (fun k => if k = 6 then some (ad8 0) else (fun k => if k = 5 then some (ad7 0) else (fun k => if k = 4 then some (ad6 0) else (fun k => if k = 3 then some (ad5 0) else (fun k => if k = 2 then some (ad4 0) else (fun k => if k = 1 then some (ad3 0) else (fun k => if k = 0 then some (ad2 0) else (fun _ => none) k) k) k) k) k) k) k) k) k) k)) C 1 20 cfX9 (fun _ => rfl) rfl rfl (by decide) (by decide) (by funext k; simp [va_up]) rfl dX1_init_43 ?_
  refine cj_iinc1 (y := 10) C dX1_init_44 (by decide) (by decide) ?_
  refine cj_goto (tgt := 25) C dX1_init_47 (by decide) ?_
  refine cj_iload1 C dX1_init_25 ?_
  refine cj_bipush (z := 10) C dX1_init_26 (by decide) ?_
  refine cj_ge_t (tgt := 50) C dX1_init_28 (by decide) (by decide) (by decide) (by decide) ?_
  exact cj_ret (ad := (fun k => if k < 1 then a else if k < 2 then q1 else if k < 4 then ad2 (k - 2) else if k < 6 then ad3 (k - 4) else if k < 8 then ad4 (k - 6) else if k < 10 then ad5 (k - 8) else if k < 12 then ad6 (k - 10) else if k < 14 then ad7 (k - 12) else if k < 16 then ad8 (k - 14) else if k < 18 then ad9 (k - 16) else if k < 20 then ad10 (k - 18) else if k < 22 then ad11 (k - 20) else 0)) C K rfl rfl rfl rfl dX1_init_50
theorem dX3_init_0 : decode cX3_init 0 = .ok (.aload_n 0, 1) := by decide +kernel
theorem dX3_init_1 : decode cX3_init 1 = .ok (.invokespecial 1, 3) := by decide +kernel
theorem dX3_init_4 : decode cX3_init 4 = .ok (.aload_n 0, 1) := by decide +kernel
theorem dX3_init_5 : decode cX3_init 5 = .ok (.new 7, 3) := by decide +kernel
theorem dX3_init_8 : decode cX3_init 8 = .ok (.dup, 1) := by decide +kernel
theorem dX3_init_9 : decode cX3_init 9 = .ok (.invokespecial 9, 3) := by decide +kernel
theorem dX3_init_12 : decode cX3_init 12 = .ok (.putfield 10, 3) := by decide +kernel
theorem dX3_init_15 : decode cX3_init 15 = .ok (.aload_n 0, 1) := by decide +kernel
theorem dX3_init_16 : decode cX3_init 16 = .ok (.new 16, 3) := by decide +kernel
theorem dX3_init_19 : decode cX3_init 19 = .ok (.dup, 1) := by decide +kernel
theorem dX3_init_20 : decode cX3_init 20 = .ok (.invokespecial 18, 3) := by decide +kernel
theorem dX3_init_23 : decode cX3_init 23 = .ok (.putfield 19, 3) := by decide +kernel
theorem dX3_init_26 : decode cX3_init 26 = .ok (.aload_n 0, 1) := by decide +kernel
theorem dX3_init_27 : decode cX3_init 27 = .ok (.iconst 0, 1) := by decide +kernel
theorem dX3_init_28 : decode cX3_init 28 = .ok (.putfield 23, 3) := by decide +kernel
theorem dX3_init_31 : decode cX3_init 31 = .ok (.return_, 1) := by decide +kernel
def bX3 : cj_B := fun cA ad => (([(ad 0, .inr (3, [.ref (ad 1), .ref (ad 13), .int (Int32.ofInt 0)]))] ++ bX6 cA (fun k => ad (1 + k))) ++ bX9 cA (fun k => ad (13 + k)))
set_option maxHeartbeats 4000000 in
set_option maxRecDepth 100000 in
theorem kX3_init {n : Nat} : cj_Ct (n + 3) yX3_init cX3_init 1 3 14 1218 [.null, .null, .int 0] bX3 := by
  refine cj_met (by decide +kernel) rfl (by decide) (fun X a C K => ?_)
  refine cj_aload0 C dX3_init_0 rfl ?_
  refine cj_objInit C wd534 wd158 wd159 dX3_init_1 ?_
  refine cj_aload0 C dX3_init_4 rfl ?_
  refine cj_newi C cfX6 wd535 wd167 wd132 (by decide) (kX6_init) (by decide) (by decide +kernel) (Or.inr ⟨"CageLift", List.mem_of_getElem? (i := 11) rfl⟩) wd169 wd170 (Nat.le_of_ble_eq_true rfl) (by decide) (by decide) dX3_init_5 dX3_init_8 dX3_init_9 (fun ad1 => ?_)
  refine cj_put (fs := [.null, .null, .int 0]) (j := 0) (ws' := ([(a, .inr (3, [.ref (ad1 0), .null, .int 0]))] ++ bX6 (cj_cA X) ad1)) C cfX3 (by decide) wd539 rfl rfl rfl (by decide) rfl rfl dX3_init_12 ?_
  refine cj_aload0 C dX3_init_15 rfl ?_
  refine cj_newi C cfX9 wd537 wd338 wd135 (by decide) (kX9_init) (by decide) (by decide +kernel) (Or.inr ⟨"CageLift", List.mem_of_getElem? (i := 12) rfl⟩) wd340 wd341 (Nat.le_of_ble_eq_true rfl) (by decide) (by decide) dX3_init_16 dX3_init_19 dX3_init_20 (fun ad2 => ?_)
  refine cj_put (fs := [.ref (ad1 0), .null, .int 0]) (j := 1) (ws' := (([(a, .inr (3, [.ref (ad1 0), .ref (ad2 0), .int 0]))] ++ bX6 (cj_cA X) ad1) ++ bX9 (cj_cA X) ad2)) C cfX3 (by decide) wd540 rfl rfl rfl (by decide) rfl rfl dX3_init_23 ?_
  refine cj_aload0 C dX3_init_26 rfl ?_
  refine cj_iconst (z := 0) C dX3_init_27 ?_
  refine cj_put (fs := [.ref (ad1 0), .ref (ad2 0), .int 0]) (j := 2) (ws' := (([(a, .inr (3, [.ref (ad1 0), .ref (ad2 0), .int (Int32.ofInt 0)]))] ++ bX6 (cj_cA X) ad1) ++ bX9 (cj_cA X) ad2)) C cfX3 (by decide) wd541 rfl rfl rfl (by decide) rfl rfl dX3_init_28 ?_
  exact cj_ret (ad := (fun k => if k < 1 then a else if k < 13 then ad1 (k - 1) else if k < 15 then ad2 (k - 13) else 0)) C K rfl rfl rfl rfl dX3_init_31
theorem dX7_init_0 : decode cX7_init 0 = .ok (.aload_n 0, 1) := by decide +kernel
theorem dX7_init_1 : decode cX7_init 1 = .ok (.invokespecial 3, 3) := by decide +kernel
theorem dX7_init_4 : decode cX7_init 4 = .ok (.aload_n 0, 1) := by decide +kernel
theorem dX7_init_5 : decode cX7_init 5 = .ok (.sipush 900, 3) := by decide +kernel
theorem dX7_init_8 : decode cX7_init 8 = .ok (.newarray .byte, 2) := by decide +kernel
theorem dX7_init_10 : decode cX7_init 10 = .ok (.putfield 9, 3) := by decide +kernel
theorem dX7_init_13 : decode cX7_init 13 = .ok (.aload_n 0, 1) := by decide +kernel
theorem dX7_init_14 : decode cX7_init 14 = .ok (.iconst 0, 1) := by decide +kernel
theorem dX7_init_15 : decode cX7_init 15 = .ok (.putfield 15, 3) := by decide +kernel
theorem dX7_init_18 : decode cX7_init 18 = .ok (.aload_n 0, 1) := by decide +kernel
theorem dX7_init_19 : decode cX7_init 19 = .ok (.iconst 0, 1) := by decide +kernel
theorem dX7_init_20 : decode cX7_init 20 = .ok (.putfield 19, 3) := by decide +kernel
theorem dX7_init_23 : decode cX7_init 23 = .ok (.aload_n 0, 1) := by decide +kernel
theorem dX7_init_24 : decode cX7_init 24 = .ok (.new 22, 3) := by decide +kernel
theorem dX7_init_27 : decode cX7_init 27 = .ok (.dup, 1) := by decide +kernel
theorem dX7_init_28 : decode cX7_init 28 = .ok (.invokespecial 24, 3) := by decide +kernel
theorem dX7_init_31 : decode cX7_init 31 = .ok (.putfield 25, 3) := by decide +kernel
theorem dX7_init_34 : decode cX7_init 34 = .ok (.aload_n 0, 1) := by decide +kernel
theorem dX7_init_35 : decode cX7_init 35 = .ok (.iconst 0, 1) := by decide +kernel
theorem dX7_init_36 : decode cX7_init 36 = .ok (.putfield 29, 3) := by decide +kernel
theorem dX7_init_39 : decode cX7_init 39 = .ok (.aload_n 0, 1) := by decide +kernel
theorem dX7_init_40 : decode cX7_init 40 = .ok (.iconst 0, 1) := by decide +kernel
theorem dX7_init_41 : decode cX7_init 41 = .ok (.putfield 33, 3) := by decide +kernel
theorem dX7_init_44 : decode cX7_init 44 = .ok (.aload_n 0, 1) := by decide +kernel
theorem dX7_init_45 : decode cX7_init 45 = .ok (.iconst 0, 1) := by decide +kernel
theorem dX7_init_46 : decode cX7_init 46 = .ok (.putfield 36, 3) := by decide +kernel
theorem dX7_init_49 : decode cX7_init 49 = .ok (.aload_n 0, 1) := by decide +kernel
theorem dX7_init_50 : decode cX7_init 50 = .ok (.iconst 1, 1) := by decide +kernel
theorem dX7_init_51 : decode cX7_init 51 = .ok (.putfield 39, 3) := by decide +kernel
theorem dX7_init_54 : decode cX7_init 54 = .ok (.aload_n 0, 1) := by decide +kernel
theorem dX7_init_55 : decode cX7_init 55 = .ok (.iconst 0, 1) := by decide +kernel
theorem dX7_init_56 : decode cX7_init 56 = .ok (.putfield 42, 3) := by decide +kernel
theorem dX7_init_59 : decode cX7_init 59 = .ok (.aload_n 0, 1) := by decide +kernel
theorem dX7_init_60 : decode cX7_init 60 = .ok (.iconst 0, 1) := by decide +kernel
theorem dX7_init_61 : decode cX7_init 61 = .ok (.putfield 45, 3) := by decide +kernel
theorem dX7_init_64 : decode cX7_init 64 = .ok (.aload_n 0, 1) := by decide +kernel
theorem dX7_init_65 : decode cX7_init 65 = .ok (.iconst (-1), 1) := by decide +kernel
theorem dX7_init_66 : decode cX7_init 66 = .ok (.putfield 48, 3) := by decide +kernel
theorem dX7_init_69 : decode cX7_init 69 = .ok (.return_, 1) := by decide +kernel
def bX7 : cj_B := fun cA ad => (([(ad 0, .inr (7, [.ref (ad 1), .int (Int32.ofInt 0), .int (Int32.ofInt 0), .ref (ad 2), .int (Int32.ofInt 0), .int (Int32.ofInt 0), .int (Int32.ofInt 0), .int (Int32.ofInt 1), .int (Int32.ofInt 0), .int (Int32.ofInt 0), .int (Int32.ofInt (-1))]))] ++ [(ad 1, .inl (cA 2, 900, .inl (fun _ => 0)))]) ++ bX6 cA (fun k => ad (2 + k)))
set_option maxHeartbeats 4000000 in
set_option maxRecDepth 100000 in
theorem kX7_init {n : Nat} : cj_Ct (n + 3) yX7_init cX7_init 1 7 13 2103 [.null, .int 0, .int 0, .null, .int 0, .int 0, .int 0, .int 0, .int 0, .int 0, .int 0] bX7 := by
  refine cj_met (by decide +kernel) rfl (by decide) (fun X a C K => ?_)
  refine cj_aload0 C dX7_init_0 rfl ?_
  refine cj_objInit C wd165 wd158 wd159 dX7_init_1 ?_
  refine cj_aload0 C dX7_init_4 rfl ?_
  refine cj_sipush (z := 900) C dX7_init_5 (by decide) ?_
  refine cj_newarr (e := 2) (N := 900) (a0 := .inl (fun _ => 0)) C wd199 rfl (fun _ => rfl) (fun _ _ _ h1 h2 => Option.some.inj (h1.symm.trans h2)) (fun _ => rfl) rfl (by decide) (by decide) (by decide) (by decide) dX7_init_8 (fun q1 => ?_)
  refine cj_put (fs := [.null, .int 0, .int 0, .null, .int 0, .int 0, .int 0, .int 0, .int 0, .int 0, .int 0]) (j := 0) (ws' := ([(a, .inr (7, [.ref q1, .int 0, .int 0, .null, .int 0, .int 0, .int 0, .int 0, .int 0, .int 0, .int 0]))] ++ [(q1, .inl (cj_cA X 2, 900, .inl (fun _ => 0)))])) C cfX7 (by decide) wd297 rfl rfl rfl (by decide) rfl rfl dX7_init_10 ?_
  refine cj_aload0 C dX7_init_13 rfl ?_
  refine cj_iconst (z := 0) C dX7_init_14 ?_
  refine cj_put (fs := [.ref q1, .int 0, .int 0, .null, .int 0, .int 0, .int 0, .int 0, .int 0, .int 0, .int 0]) (j := 1) (ws' := ([(a, .inr (7, [.ref q1, .int (Int32.ofInt 0), .int 0, .null, .int 0, .int 0, .int 0, .int 0, .int 0, .int 0, .int 0]))] ++ [(q1, .inl (cj_cA X 2, 900, .inl (fun _ => 0)))])) C cfX7 (by decide) wd298 rfl rfl rfl (by decide) rfl rfl dX7_init_15 ?_
  refine cj_aload0 C dX7_init_18 rfl ?_
  refine cj_iconst (z := 0) C dX7_init_19 ?_
  refine cj_put (fs := [.ref q1, .int (Int32.ofInt 0), .int 0, .null, .int 0, .int 0, .int 0, .int 0, .int 0, .int 0, .int 0]) (j := 2) (ws' := ([(a, .inr (7, [.ref q1, .int (Int32.ofInt 0), .int (Int32.ofInt 0), .null, .int 0, .int 0, .int 0, .int 0, .int 0, .int 0, .int 0]))] ++ [(q1, .inl (cj_cA X 2, 900, .inl (fun _ => 0)))])) C cfX7 (by decide) wd300 rfl rfl rfl (by decide) rfl rfl dX7_init_20 ?_
  refine cj_aload0 C dX7_init_23 rfl ?_
  refine cj_newi C cfX6 wd166 wd167 wd132 (by decide) (kX6_init) (by decide) (by decide +kernel) (Or.inr ⟨"CageLift", List.mem_of_getElem? (i := 1) rfl⟩) wd169 wd170 (Nat.le_of_ble_eq_true rfl) (by decide) (by decide) dX7_init_24 dX7_init_27 dX7_init_28 (fun ad2 => ?_)
  refine cj_put (fs := [.ref q1, .int (Int32.ofInt 0), .int (Int32.ofInt 0), .null, .int 0, .int 0, .int 0, .int 0, .int 0, .int 0, .int 0]) (j := 3) (ws' := (([(a, .inr (7, [.ref q1, .int (Int32.ofInt 0), .int (Int32.ofInt 0), .ref (ad2 0), .int 0, .int 0, .int 0, .int 0, .int 0, .int 0, .int 0]))] ++ [(q1, .inl (cj_cA X 2, 900, .inl (fun _ => 0)))]) ++ bX6 (cj_cA X) ad2)) C cfX7 (by decide) wd301 rfl rfl rfl (by decide) rfl rfl dX7_init_31 ?_
  refine cj_aload0 C dX7_init_34 rfl ?_
  refine cj_iconst (z := 0) C dX7_init_35 ?_
  refine cj_put (fs := [.ref q1, .int (Int32.ofInt 0), .int (Int32.ofInt 0), .ref (ad2 0), .int 0, .int 0, .int 0, .int 0, .int 0, .int 0, .int 0]) (j := 4) (ws' := (([(a, .inr (7, [.ref q1, .int (Int32.ofInt 0), .int (Int32.ofInt 0), .ref (ad2 0), .int (Int32.ofInt 0), .int 0, .int 0, .int 0, .int 0, .int 0, .int 0]))] ++ [(q1, .inl (cj_cA X 2, 900, .inl (fun _ => 0)))]) ++ bX6 (cj_cA X) ad2)) C cfX7 (by decide) wd303 rfl rfl rfl (by decide) rfl rfl dX7_init_36 ?_
  refine cj_aload0 C dX7_init_39 rfl ?_
  refine cj_iconst (z := 0) C dX7_init_40 ?_
  refine cj_put (fs := [.ref q1, .int (Int32.ofInt 0), .int (Int32.ofInt 0), .ref (ad2 0), .int (Int32.ofInt 0), .int 0, .int 0, .int 0, .int 0, .int 0, .int 0]) (j := 5) (ws' := (([(a, .inr (7, [.ref q1, .int (Int32.ofInt 0), .int (Int32.ofInt 0), .ref (ad2 0), .int (Int32.ofInt 0), .int (Int32.ofInt 0), .int 0, .int 0, .int 0, .int 0, .int 0]))] ++ [(q1, .inl (cj_cA X 2, 900, .inl (fun _ => 0)))]) ++ bX6 (cj_cA X) ad2)) C cfX7 (by decide) wd304 rfl rfl rfl (by decide) rfl rfl dX7_init_41 ?_
  refine cj_aload0 C dX7_init_44 rfl ?_
  refine cj_iconst (z := 0) C dX7_init_45 ?_
  refine cj_put (fs := [.ref q1, .int (Int32.ofInt 0), .int (Int32.ofInt 0), .ref (ad2 0), .int (Int32.ofInt 0), .int (Int32.ofInt 0), .int 0, .int 0, .int 0, .int 0, .int 0]) (j := 6) (ws' := (([(a, .inr (7, [.ref q1, .int (Int32.ofInt 0), .int (Int32.ofInt 0), .ref (ad2 0), .int (Int32.ofInt 0), .int (Int32.ofInt 0), .int (Int32.ofInt 0), .int 0, .int 0, .int 0, .int 0]))] ++ [(q1, .inl (cj_cA X 2, 900, .inl (fun _ => 0)))]) ++ bX6 (cj_cA X) ad2)) C cfX7 (by decide) wd305 rfl rfl rfl (by decide) rfl rfl dX7_init_46 ?_
  refine cj_aload0 C dX7_init_49 rfl ?_
  refine cj_iconst (z := 1) C dX7_init_50 ?_
  refine cj_put (fs := [.ref q1, .int (Int32.ofInt 0), .int (Int32.ofInt 0), .ref (ad2 0), .int (Int32.ofInt 0), .int (Int32.ofInt 0), .int (Int32.ofInt 0), .int 0, .int 0, .int 0, .int 0]) (j := 7) (ws' := (([(a, .inr (7, [.ref q1, .int (Int32.ofInt 0), .int (Int32.ofInt 0), .ref (ad2 0), .int (Int32.ofInt 0), .int (Int32.ofInt 0), .int (Int32.ofInt 0), .int (Int32.ofInt 1), .int 0, .int 0, .int 0]))] ++ [(q1, .inl (cj_cA X 2, 900, .inl (fun _ => 0)))]) ++ bX6 (cj_cA X) ad2)) C cfX7 (by decide) wd306 rfl rfl rfl (by decide) rfl rfl dX7_init_51 ?_
  refine cj_aload0 C dX7_init_54 rfl ?_
  refine cj_iconst (z := 0) C dX7_init_55 ?_
  refine cj_put (fs := [.ref q1, .int (Int32.ofInt 0), .int (Int32.ofInt 0), .ref (ad2 0), .int (Int32.ofInt 0), .int (Int32.ofInt 0), .int (Int32.ofInt 0), .int (Int32.ofInt 1), .int 0, .int 0, .int 0]) (j := 8) (ws' := (([(a, .inr (7, [.ref q1, .int (Int32.ofInt 0), .int (Int32.ofInt 0), .ref (ad2 0), .int (Int32.ofInt 0), .int (Int32.ofInt 0), .int (Int32.ofInt 0), .int (Int32.ofInt 1), .int (Int32.ofInt 0), .int 0, .int 0]))] ++ [(q1, .inl (cj_cA X 2, 900, .inl (fun _ => 0)))]) ++ bX6 (cj_cA X) ad2)) C cfX7 (by decide) wd307 rfl rfl rfl (by decide) rfl rfl dX7_init_56 ?_
  refine cj_aload0 C dX7_init_59 rfl ?_
  refine cj_iconst (z := 0) C dX7_init_60 ?_
  refine cj_put (fs := [.ref q1, .int (Int32.ofInt 0), .int (Int32.ofInt 0), .ref (ad2 0), .int (Int32.ofInt 0), .int (Int32.ofInt 0), .int (Int32.ofInt 0), .int (Int32.ofInt 1), .int (Int32.ofInt 0), .int 0, .int 0]) (j := 9) (ws' := (([(a, .inr (7, [.ref q1, .int (Int32.ofInt 0), .int (Int32.ofInt 0), .ref (ad2 0), .int (Int32.ofInt 0), .int (Int32.ofInt 0), .int (Int32.ofInt 0), .int (Int32.ofInt 1), .int (Int32.ofInt 0), .int (Int32.ofInt 0), .int 0]))] ++ [(q1, .inl (cj_cA X 2, 900, .inl (fun _ => 0)))]) ++ bX6 (cj_cA X) ad2)) C cfX7 (by decide) wd308 rfl rfl rfl (by decide) rfl rfl dX7_init_61 ?_
  refine cj_aload0 C dX7_init_64 rfl ?_
  refine cj_iconst (z := (-1)) C dX7_init_65 ?_
  refine cj_put (fs := [.ref q1, .int (Int32.ofInt 0), .int (Int32.ofInt 0), .ref (ad2 0), .int (Int32.ofInt 0), .int (Int32.ofInt 0), .int (Int32.ofInt 0), .int (Int32.ofInt 1), .int (Int32.ofInt 0), .int (Int32.ofInt 0), .int 0]) (j := 10) (ws' := (([(a, .inr (7, [.ref q1, .int (Int32.ofInt 0), .int (Int32.ofInt 0), .ref (ad2 0), .int (Int32.ofInt 0), .int (Int32.ofInt 0), .int (Int32.ofInt 0), .int (Int32.ofInt 1), .int (Int32.ofInt 0), .int (Int32.ofInt 0), .int (Int32.ofInt (-1))]))] ++ [(q1, .inl (cj_cA X 2, 900, .inl (fun _ => 0)))]) ++ bX6 (cj_cA X) ad2)) C cfX7 (by decide) wd310 rfl rfl rfl (by decide) rfl rfl dX7_init_66 ?_
  exact cj_ret (ad := (fun k => if k < 1 then a else if k < 2 then q1 else if k < 14 then ad2 (k - 2) else 0)) C K rfl rfl rfl rfl dX7_init_69
theorem dX11_init_0 : decode cX11_init 0 = .ok (.aload_n 0, 1) := by decide +kernel
theorem dX11_init_1 : decode cX11_init 1 = .ok (.invokespecial 3, 3) := by decide +kernel
theorem dX11_init_4 : decode cX11_init 4 = .ok (.aload_n 0, 1) := by decide +kernel
theorem dX11_init_5 : decode cX11_init 5 = .ok (.new 9, 3) := by decide +kernel
theorem dX11_init_8 : decode cX11_init 8 = .ok (.dup, 1) := by decide +kernel
theorem dX11_init_9 : decode cX11_init 9 = .ok (.invokespecial 11, 3) := by decide +kernel
theorem dX11_init_12 : decode cX11_init 12 = .ok (.putfield 12, 3) := by decide +kernel
theorem dX11_init_15 : decode cX11_init 15 = .ok (.aload_n 0, 1) := by decide +kernel
theorem dX11_init_16 : decode cX11_init 16 = .ok (.new 16, 3) := by decide +kernel
theorem dX11_init_19 : decode cX11_init 19 = .ok (.dup, 1) := by decide +kernel
theorem dX11_init_20 : decode cX11_init 20 = .ok (.invokespecial 18, 3) := by decide +kernel
theorem dX11_init_23 : decode cX11_init 23 = .ok (.putfield 19, 3) := by decide +kernel
theorem dX11_init_26 : decode cX11_init 26 = .ok (.aload_n 0, 1) := by decide +kernel
theorem dX11_init_27 : decode cX11_init 27 = .ok (.new 23, 3) := by decide +kernel
theorem dX11_init_30 : decode cX11_init 30 = .ok (.dup, 1) := by decide +kernel
theorem dX11_init_31 : decode cX11_init 31 = .ok (.invokespecial 25, 3) := by decide +kernel
theorem dX11_init_34 : decode cX11_init 34 = .ok (.putfield 26, 3) := by decide +kernel
theorem dX11_init_37 : decode cX11_init 37 = .ok (.aload_n 0, 1) := by decide +kernel
theorem dX11_init_38 : decode cX11_init 38 = .ok (.new 23, 3) := by decide +kernel
theorem dX11_init_41 : decode cX11_init 41 = .ok (.dup, 1) := by decide +kernel
theorem dX11_init_42 : decode cX11_init 42 = .ok (.invokespecial 25, 3) := by decide +kernel
theorem dX11_init_45 : decode cX11_init 45 = .ok (.putfield 30, 3) := by decide +kernel
theorem dX11_init_48 : decode cX11_init 48 = .ok (.aload_n 0, 1) := by decide +kernel
theorem dX11_init_49 : decode cX11_init 49 = .ok (.new 23, 3) := by decide +kernel
theorem dX11_init_52 : decode cX11_init 52 = .ok (.dup, 1) := by decide +kernel
theorem dX11_init_53 : decode cX11_init 53 = .ok (.invokespecial 25, 3) := by decide +kernel
theorem dX11_init_56 : decode cX11_init 56 = .ok (.putfield 33, 3) := by decide +kernel
theorem dX11_init_59 : decode cX11_init 59 = .ok (.aload_n 0, 1) := by decide +kernel
theorem dX11_init_60 : decode cX11_init 60 = .ok (.new 36, 3) := by decide +kernel
theorem dX11_init_63 : decode cX11_init 63 = .ok (.dup, 1) := by decide +kernel
theorem dX11_init_64 : decode cX11_init 64 = .ok (.invokespecial 38, 3) := by decide +kernel
theorem dX11_init_67 : decode cX11_init 67 = .ok (.putfield 39, 3) := by decide +kernel
theorem dX11_init_70 : decode cX11_init 70 = .ok (.aload_n 0, 1) := by decide +kernel
theorem dX11_init_71 : decode cX11_init 71 = .ok (.iconst 2, 1) := by decide +kernel
theorem dX11_init_72 : decode cX11_init 72 = .ok (.anewarray 43, 3) := by decide +kernel
theorem dX11_init_75 : decode cX11_init 75 = .ok (.putfield 45, 3) := by decide +kernel
theorem dX11_init_78 : decode cX11_init 78 = .ok (.aload_n 0, 1) := by decide +kernel
theorem dX11_init_79 : decode cX11_init 79 = .ok (.iconst 4, 1) := by decide +kernel
theorem dX11_init_80 : decode cX11_init 80 = .ok (.anewarray 49, 3) := by decide +kernel
theorem dX11_init_83 : decode cX11_init 83 = .ok (.putfield 51, 3) := by decide +kernel
theorem dX11_init_86 : decode cX11_init 86 = .ok (.aload_n 0, 1) := by decide +kernel
theorem dX11_init_87 : decode cX11_init 87 = .ok (.new 55, 3) := by decide +kernel
theorem dX11_init_90 : decode cX11_init 90 = .ok (.dup, 1) := by decide +kernel
theorem dX11_init_91 : decode cX11_init 91 = .ok (.invokespecial 57, 3) := by decide +kernel
theorem dX11_init_94 : decode cX11_init 94 = .ok (.putfield 58, 3) := by decide +kernel
theorem dX11_init_97 : decode cX11_init 97 = .ok (.aload_n 0, 1) := by decide +kernel
theorem dX11_init_98 : decode cX11_init 98 = .ok (.new 62, 3) := by decide +kernel
theorem dX11_init_101 : decode cX11_init 101 = .ok (.dup, 1) := by decide +kernel
theorem dX11_init_102 : decode cX11_init 102 = .ok (.invokespecial 64, 3) := by decide +kernel
theorem dX11_init_105 : decode cX11_init 105 = .ok (.putfield 65, 3) := by decide +kernel
theorem dX11_init_108 : decode cX11_init 108 = .ok (.aload_n 0, 1) := by decide +kernel
theorem dX11_init_109 : decode cX11_init 109 = .ok (.new 69, 3) := by decide +kernel
theorem dX11_init_112 : decode cX11_init 112 = .ok (.dup, 1) := by decide +kernel
theorem dX11_init_113 : decode cX11_init 113 = .ok (.invokespecial 71, 3) := by decide +kernel
theorem dX11_init_116 : decode cX11_init 116 = .ok (.putfield 72, 3) := by decide +kernel
theorem dX11_init_119 : decode cX11_init 119 = .ok (.aload_n 0, 1) := by decide +kernel
theorem dX11_init_120 : decode cX11_init 120 = .ok (.bipush 10, 2) := by decide +kernel
theorem dX11_init_122 : decode cX11_init 122 = .ok (.newarray .int, 2) := by decide +kernel
theorem dX11_init_124 : decode cX11_init 124 = .ok (.putfield 76, 3) := by decide +kernel
theorem dX11_init_127 : decode cX11_init 127 = .ok (.aload_n 0, 1) := by decide +kernel
theorem dX11_init_128 : decode cX11_init 128 = .ok (.iconst 1, 1) := by decide +kernel
theorem dX11_init_129 : decode cX11_init 129 = .ok (.putfield 80, 3) := by decide +kernel
theorem dX11_init_132 : decode cX11_init 132 = .ok (.iconst 0, 1) := by decide +kernel
theorem dX11_init_133 : decode cX11_init 133 = .ok (.istore_n 1, 1) := by decide +kernel
theorem dX11_init_134 : decode cX11_init 134 = .ok (.iload_n 1, 1) := by decide +kernel
theorem dX11_init_135 : decode cX11_init 135 = .ok (.iconst 2, 1) := by decide +kernel
theorem dX11_init_136 : decode cX11_init 136 = .ok (.if_icmp .ge 22, 3) := by decide +kernel
theorem dX11_init_139 : decode cX11_init 139 = .ok (.aload_n 0, 1) := by decide +kernel
theorem dX11_init_140 : decode cX11_init 140 = .ok (.getfield 45, 3) := by decide +kernel
theorem dX11_init_143 : decode cX11_init 143 = .ok (.iload_n 1, 1) := by decide +kernel
theorem dX11_init_144 : decode cX11_init 144 = .ok (.new 43, 3) := by decide +kernel
theorem dX11_init_147 : decode cX11_init 147 = .ok (.dup, 1) := by decide +kernel
theorem dX11_init_148 : decode cX11_init 148 = .ok (.invokespecial 84, 3) := by decide +kernel
theorem dX11_init_151 : decode cX11_init 151 = .ok (.aastore, 1) := by decide +kernel
theorem dX11_init_152 : decode cX11_init 152 = .ok (.iinc 1 1, 3) := by decide +kernel
theorem dX11_init_155 : decode cX11_init 155 = .ok (.goto (-21), 3) := by decide +kernel
theorem dX11_init_158 : decode cX11_init 158 = .ok (.iconst 0, 1) := by decide +kernel
theorem dX11_init_159 : decode cX11_init 159 = .ok (.istore_n 1, 1) := by decide +kernel
theorem dX11_init_160 : decode cX11_init 160 = .ok (.iload_n 1, 1) := by decide +kernel
theorem dX11_init_161 : decode cX11_init 161 = .ok (.iconst 4, 1) := by decide +kernel
theorem dX11_init_162 : decode cX11_init 162 = .ok (.if_icmp .ge 22, 3) := by decide +kernel
theorem dX11_init_165 : decode cX11_init 165 = .ok (.aload_n 0, 1) := by decide +kernel
theorem dX11_init_166 : decode cX11_init 166 = .ok (.getfield 51, 3) := by decide +kernel
theorem dX11_init_169 : decode cX11_init 169 = .ok (.iload_n 1, 1) := by decide +kernel
theorem dX11_init_170 : decode cX11_init 170 = .ok (.new 49, 3) := by decide +kernel
theorem dX11_init_173 : decode cX11_init 173 = .ok (.dup, 1) := by decide +kernel
theorem dX11_init_174 : decode cX11_init 174 = .ok (.invokespecial 85, 3) := by decide +kernel
theorem dX11_init_177 : decode cX11_init 177 = .ok (.aastore, 1) := by decide +kernel
theorem dX11_init_178 : decode cX11_init 178 = .ok (.iinc 1 1, 3) := by decide +kernel
theorem dX11_init_181 : decode cX11_init 181 = .ok (.goto (-21), 3) := by decide +kernel
theorem dX11_init_184 : decode cX11_init 184 = .ok (.return_, 1) := by decide +kernel
def bX11 : cj_B := fun cA ad => (((((((((((((((((([(ad 0, .inr (11, [.ref (ad 1), .ref (ad 15), .ref (ad 27), .ref (ad 29), .ref (ad 31), .ref (ad 33), .ref (ad 55), .ref (ad 56), .ref (ad 57), .ref (ad 77), .ref (ad 90), .ref (ad 93), .int (Int32.ofInt 1)]))] ++ bX7 cA (fun k => ad (1 + k))) ++ bX6 cA (fun k => ad (15 + k))) ++ bX9 cA (fun k => ad (27 + k))) ++ bX9 cA (fun k => ad (29 + k))) ++ bX9 cA (fun k => ad (31 + k))) ++ bX1 cA (fun k => ad (33 + k))) ++ [(ad 55, .inl (cA 5, 2, .inr (.inr (.inr (.inr (fun k => if k = 1 then some (ad 109) else (fun k => if k = 0 then some (ad 94) else (fun _ => none) k) k))))))]) ++ [(ad 56, .inl (cA 6, 4, .inr (.inr (.inr (.inr (fun k => if k = 3 then some (ad 130) else (fun k => if k = 2 then some (ad 128) else (fun k => if k = 1 then some (ad 126) else (fun k => if k = 0 then some (ad 124) else (fun _ => none) k) k) k) k))))))]) ++ bX8 cA (fun k => ad (57 + k))) ++ bX5 cA (fun k => ad (77 + k))) ++ bX2 cA (fun k => ad (90 + k))) ++ [(ad 93, .inl (cA 0, 10, .inl (fun _ => 0)))]) ++ bX3 cA (fun k => ad (94 + k))) ++ bX3 cA (fun k => ad (109 + k))) ++ bX10 cA (fun k => ad (124 + k))) ++ bX10 cA (fun k => ad (126 + k))) ++ bX10 cA (fun k => ad (128 + k))) ++ bX10 cA (fun k => ad (130 + k)))
set_option maxHeartbeats 4000000 in
set_option maxRecDepth 100000 in
theorem kX11_init {n : Nat} : cj_Ct (n + 4) yX11_init cX11_init 2 11 131 16361 [.null, .null, .null, .null, .null, .null, .null, .null, .null, .null, .null, .null, .int 0] bX11 := by
  refine cj_met (by decide +kernel) rfl (by decide) (fun X a C K => ?_)
  refine cj_aload0 C dX11_init_0 rfl ?_
  refine cj_objInit C wd157 wd158 wd159 dX11_init_1 ?_
  refine cj_aload0 C dX11_init_4 rfl ?_
  refine cj_newi C cfX7 wd160 wd161 wd131 (by decide) (kX7_init) (by decide) (by decide +kernel) (Or.inr ⟨"CageLift", List.mem_of_getElem? (i := 0) rfl⟩) wd163 wd164 (Nat.le_of_ble_eq_true rfl) (by decide) (by decide) dX11_init_5 dX11_init_8 dX11_init_9 (fun ad1 => ?_)
  refine cj_put (fs := [.null, .null, .null, .null, .null, .null, .null, .null, .null, .null, .null, .null, .int 0]) (j := 0) (ws' := ([(a, .inr (11, [.ref (ad1 0), .null, .null, .null, .null, .null, .null, .null, .null, .null, .null, .null, .int 0]))] ++ bX7 (cj_cA X) ad1)) C cfX11 (by decide) wd568 rfl rfl rfl (by decide) rfl rfl dX11_init_12 ?_
  refine cj_aload0 C dX11_init_15 rfl ?_
  refine cj_newi C cfX6 wd335 wd167 wd132 (by decide) (kX6_init) (by decide) (by decide +kernel) (Or.inr ⟨"CageLift", List.mem_of_getElem? (i := 3) rfl⟩) wd169 wd170 (Nat.le_of_ble_eq_true rfl) (by decide) (by decide) dX11_init_16 dX11_init_19 dX11_init_20 (fun ad2 => ?_)
  refine cj_put (fs := [.ref (ad1 0), .null, .null, .null, .null, .null, .null, .null, .null, .null, .null, .null, .int 0]) (j := 1) (ws' := (([(a, .inr (11, [.ref (ad1 0), .ref (ad2 0), .null, .null, .null, .null, .null, .null, .null, .null, .null, .null, .int 0]))] ++ bX7 (cj_cA X) ad1) ++ bX6 (cj_cA X) ad2)) C cfX11 (by decide) wd569 rfl rfl rfl (by decide) rfl rfl dX11_init_23 ?_
  refine cj_aload0 C dX11_init_26 rfl ?_
  refine cj_newi C cfX9 wd337 wd338 wd135 (by decide) (kX9_init) (by decide) (by decide +kernel) (Or.inr ⟨"CageLift", List.mem_of_getElem? (i := 4) rfl⟩) wd340 wd341 (Nat.le_of_ble_eq_true rfl) (by decide) (by decide) dX11_init_27 dX11_init_30 dX11_init_31 (fun ad3 => ?_)
  refine cj_put (fs := [.ref (ad1 0), .ref (ad2 0), .null, .null, .null, .null, .null, .null, .null, .null, .null, .null, .int 0]) (j := 2) (ws' := ((([(a, .inr (11, [.ref (ad1 0), .ref (ad2 0), .ref (ad3 0), .null, .null, .null, .null, .null, .null, .null, .null, .null, .int 0]))] ++ bX7 (cj_cA X) ad1) ++ bX6 (cj_cA X) ad2) ++ bX9 (cj_cA X) ad3)) C cfX11 (by decide) wd570 rfl rfl rfl (by decide) rfl rfl dX11_init_34 ?_
  refine cj_aload0 C dX11_init_37 rfl ?_
  refine cj_newi C cfX9 wd337 wd338 wd135 (by decide) (kX9_init) (by decide) (by decide +kernel) (Or.inr ⟨"CageLift", List.mem_of_getElem? (i := 4) rfl⟩) wd340 wd341 (Nat.le_of_ble_eq_true rfl) (by decide) (by decide) dX11_init_38 dX11_init_41 dX11_init_42 (fun ad4 => ?_)
  refine cj_put (fs := [.ref (ad1 0), .ref (ad2 0), .ref (ad3 0), .null, .null, .null, .null, .null, .null, .null, .null, .null, .int 0]) (j := 3) (ws' := (((([(a, .inr (11, [.ref (ad1 0), .ref (ad2 0), .ref (ad3 0), .ref (ad4 0), .null, .null, .null, .null, .null, .null, .null, .null, .int 0]))] ++ bX7 (cj_cA X) ad1) ++ bX6 (cj_cA X) ad2) ++ bX9 (cj_cA X) ad3) ++ bX9 (cj_cA X) ad4)) C cfX11 (by decide) wd571 rfl rfl rfl (by decide) rfl rfl dX11_init_45 ?_
  refine cj_aload0 C dX11_init_48 rfl ?_
  refine cj_newi C cfX9 wd337 wd338 wd135 (by decide) (kX9_init) (by decide) (by decide +kernel) (Or.inr ⟨"CageLift", List.mem_of_getElem? (i := 4) rfl⟩) wd340 wd341 (Nat.le_of_ble_eq_true rfl) (by decide) (by decide) dX11_init_49 dX11_init_52 dX11_init_53 (fun ad5 => ?_)
  refine cj_put (fs := [.ref (ad1 0), .ref (ad2 0), .ref (ad3 0), .ref (ad4 0), .null, .null, .null, .null, .null, .null, .null, .null, .int 0]) (j := 4) (ws' := ((((([(a, .inr (11, [.ref (ad1 0), .ref (ad2 0), .ref (ad3 0), .ref (ad4 0), .ref (ad5 0), .null, .null, .null, .null, .null, .null, .null, .int 0]))] ++ bX7 (cj_cA X) ad1) ++ bX6 (cj_cA X) ad2) ++ bX9 (cj_cA X) ad3) ++ bX9 (cj_cA X) ad4) ++ bX9 (cj_cA X) ad5)) C cfX11 (by decide) wd572 rfl rfl rfl (by decide) rfl rfl dX11_init_56 ?_
  refine cj_aload0 C dX11_init_59 rfl ?_
  refine cj_newi C cfX1 wd358 wd359 wd136 (by decide) (kX1_init) (by decide) (by decide +kernel) (Or.inl wd360) wd361 wd362 (Nat.le_of_ble_eq_true rfl) (by decide) (by decide) dX11_init_60 dX11_init_63 dX11_init_64 (fun ad6 => ?_)
  refine cj_put (fs := [.ref (ad1 0), .ref (ad2 0), .ref (ad3 0), .ref (ad4 0), .ref (ad5 0), .null, .null, .null, .null, .null, .null, .null, .int 0]) (j := 5) (ws' := (((((([(a, .inr (11, [.ref (ad1 0), .ref (ad2 0), .ref (ad3 0), .ref (ad4 0), .ref (ad5 0), .ref (ad6 0), .null, .null, .null, .null, .null, .null, .int 0]))] ++ bX7 (cj_cA X) ad1) ++ bX6 (cj_cA X) ad2) ++ bX9 (cj_cA X) ad3) ++ bX9 (cj_cA X) ad4) ++ bX9 (cj_cA X) ad5) ++ bX1 (cj_cA X) ad6)) C cfX11 (by decide) wd573 rfl rfl rfl (by decide) rfl rfl dX11_init_67 ?_
  refine cj_aload0 C dX11_init_70 rfl ?_
  refine cj_iconst (z := 2) C dX11_init_71 ?_
  refine cj_anew (e := 5) (N := 2) C wd378 (fun _ h => h.2.2.1) (fun _ => rfl) rfl (by decide) (by decide) (by decide) dX11_init_72 (fun q7 => ?_)
  refine cj_put (fs := [.ref (ad1 0), .ref (ad2 0), .ref (ad3 0), .ref (ad4 0), .ref (ad5 0), .ref (ad6 0), .null, .null, .null, .null, .null, .null, .int 0]) (j := 6) (ws' := ((((((([(a, .inr (11, [.ref (ad1 0), .ref (ad2 0), .ref (ad3 0), .ref (ad4 0), .ref (ad5 0), .ref (ad6 0), .ref q7, .null, .null, .null, .null, .null, .int 0]))] ++ bX7 (cj_cA X) ad1) ++ bX6 (cj_cA X) ad2) ++ bX9 (cj_cA X) ad3) ++ bX9 (cj_cA X) ad4) ++ bX9 (cj_cA X) ad5) ++ bX1 (cj_cA X) ad6) ++ [(q7, .inl (cj_cA X 5, 2, .inr (.inr (.inr (.inr (fun _ => none))))))])) C cfX11 (by decide) wd574 rfl rfl rfl (by decide) rfl rfl dX11_init_75 ?_
  refine cj_aload0 C dX11_init_78 rfl ?_
  refine cj_iconst (z := 4) C dX11_init_79 ?_
  refine cj_anew (e := 6) (N := 4) C wd380 (fun _ h => h.2.2.2) (fun _ => rfl) rfl (by decide) (by decide) (by decide) dX11_init_80 (fun q8 => ?_)
  refine cj_put (fs := [.ref (ad1 0), .ref (ad2 0), .ref (ad3 0), .ref (ad4 0), .ref (ad5 0), .ref (ad6 0), .ref q7, .null, .null, .null, .null, .null, .int 0]) (j := 7) (ws' := (((((((([(a, .inr (11, [.ref (ad1 0), .ref (ad2 0), .ref (ad3 0), .ref (ad4 0), .ref (ad5 0), .ref (ad6 0), .ref q7, .ref q8, .null, .null, .null, .null, .int 0]))] ++ bX7 (cj_cA X) ad1) ++ bX6 (cj_cA X) ad2) ++ bX9 (cj_cA X) ad3) ++ bX9 (cj_cA X) ad4) ++ bX9 (cj_cA X) ad5) ++ bX1 (cj_cA X) ad6) ++ [(q7, .inl (cj_cA X 5, 2, .inr (.inr (.inr (.inr (fun _ => none))))))]) ++ [(q8, .inl (cj_cA X 6, 4, .inr (.inr (.inr (.inr (fun _ => none))))))])) C cfX11 (by decide) wd575 rfl rfl rfl (by decide) rfl rfl dX11_init_83 ?_
  refine cj_aload0 C dX11_init_86 rfl ?_
  refine cj_newi C cfX8 wd382 wd383 wd137 (by decide) (kX8_init) (by decide) (by decide +kernel) (Or.inr ⟨"CageLift", List.mem_of_getElem? (i := 6) rfl⟩) wd385 wd386 (Nat.le_of_ble_eq_true rfl) (by decide) (by decide) dX11_init_87 dX11_init_90 dX11_init_91 (fun ad9 => ?_)
  refine cj_put (fs := [.ref (ad1 0), .ref (ad2 0), .ref (ad3 0), .ref (ad4 0), .ref (ad5 0), .ref (ad6 0), .ref q7, .ref q8, .null, .null, .null, .null, .int 0]) (j := 8) (ws' := ((((((((([(a, .inr (11, [.ref (ad1 0), .ref (ad2 0), .ref (ad3 0), .ref (ad4 0), .ref (ad5 0), .ref (ad6 0), .ref q7, .ref q8, .ref (ad9 0), .null, .null, .null, .int 0]))] ++ bX7 (cj_cA X) ad1) ++ bX6 (cj_cA X) ad2) ++ bX9 (cj_cA X) ad3) ++ bX9 (cj_cA X) ad4) ++ bX9 (cj_cA X) ad5) ++ bX1 (cj_cA X) ad6) ++ [(q7, .inl (cj_cA X 5, 2, .inr (.inr (.inr (.inr (fun _ => none))))))]) ++ [(q8, .inl (cj_cA X 6, 4, .inr (.inr (.inr (.inr (fun _ => none))))))]) ++ bX8 (cj_cA X) ad9)) C cfX11 (by decide) wd576 rfl rfl rfl (by decide) rfl rfl dX11_init_94 ?_
  refine cj_aload0 C dX11_init_97 rfl ?_
  refine cj_newi C cfX5 wd493 wd389 wd138 (by decide) (kX5_init) (by decide) (by decide +kernel) (Or.inr ⟨"CageLift", List.mem_of_getElem? (i := 8) rfl⟩) wd391 wd392 (Nat.le_of_ble_eq_true rfl) (by decide) (by decide) dX11_init_98 dX11_init_101 dX11_init_102 (fun ad10 => ?_)
  refine cj_put (fs := [.ref (ad1 0), .ref (ad2 0), .ref (ad3 0), .ref (ad4 0), .ref (ad5 0), .ref (ad6 0), .ref q7, .ref q8, .ref (ad9 0), .null, .null, .null, .int 0]) (j := 9) (ws' := (((((((((([(a, .inr (11, [.ref (ad1 0), .ref (ad2 0), .ref (ad3 0), .ref (ad4 0), .ref (ad5 0), .ref (ad6 0), .ref q7, .ref q8, .ref (ad9 0), .ref (ad10 0), .null, .null, .int 0]))] ++ bX7 (cj_cA X) ad1) ++ bX6 (cj_cA X) ad2) ++ bX9 (cj_cA X) ad3) ++ bX9 (cj_cA X) ad4) ++ bX9 (cj_cA X) ad5) ++ bX1 (cj_cA X) ad6) ++ [(q7, .inl (cj_cA X 5, 2, .inr (.inr (.inr (.inr (fun _ => none))))))]) ++ [(q8, .inl (cj_cA X 6, 4, .inr (.inr (.inr (.inr (fun _ => none))))))]) ++ bX8 (cj_cA X) ad9) ++ bX5 (cj_cA X) ad10)) C cfX11 (by decide) wd577 rfl rfl rfl (by decide) rfl rfl dX11_init_105 ?_
  refine cj_aload0 C dX11_init_108 rfl ?_
  refine cj_newi C cfX2 wd495 wd496 wd139 (by decide) (kX2_init) (by decide) (by decide +kernel) (Or.inr ⟨"CageLift", List.mem_of_getElem? (i := 9) rfl⟩) wd498 wd499 (Nat.le_of_ble_eq_true rfl) (by decide) (by decide) dX11_init_109 dX11_init_112 dX11_init_113 (fun ad11 => ?_)
  refine cj_put (fs := [.ref (ad1 0), .ref (ad2 0), .ref (ad3 0), .ref (ad4 0), .ref (ad5 0), .ref (ad6 0), .ref q7, .ref q8, .ref (ad9 0), .ref (ad10 0), .null, .null, .int 0]) (j := 10) (ws' := ((((((((((([(a, .inr (11, [.ref (ad1 0), .ref (ad2 0), .ref (ad3 0), .ref (ad4 0), .ref (ad5 0), .ref (ad6 0), .ref q7, .ref q8, .ref (ad9 0), .ref (ad10 0), .ref (ad11 0), .null, .int 0]))] ++ bX7 (cj_cA X) ad1) ++ bX6 (cj_cA X) ad2) ++ bX9 (cj_cA X) ad3) ++ bX9 (cj_cA X) ad4) ++ bX9 (cj_cA X) ad5) ++ bX1 (cj_cA X) ad6) ++ [(q7, .inl (cj_cA X 5, 2, .inr (.inr (.inr (.inr (fun _ => none))))))]) ++ [(q8, .inl (cj_cA X 6, 4, .inr (.inr (.inr (.inr (fun _ => none))))))]) ++ bX8 (cj_cA X) ad9) ++ bX5 (cj_cA X) ad10) ++ bX2 (cj_cA X) ad11)) C cfX11 (by decide) wd578 rfl rfl rfl (by decide) rfl rfl dX11_init_116 ?_
  refine cj_aload0 C dX11_init_119 rfl ?_
  refine cj_bipush (z := 10) C dX11_init_120 (by decide) ?_
  refine cj_newarr (e := 0) (N := 10) (a0 := .inl (fun _ => 0)) C wd200 rfl (fun _ => rfl) (fun _ _ _ h1 h2 => Option.some.inj (h1.symm.trans h2)) (fun _ => rfl) rfl (by decide) (by decide) (by decide) (by decide) dX11_init_122 (fun q12 => ?_)
  refine cj_put (fs := [.ref (ad1 0), .ref (ad2 0), .ref (ad3 0), .ref (ad4 0), .ref (ad5 0), .ref (ad6 0), .ref q7, .ref q8, .ref (ad9 0), .ref (ad10 0), .ref (ad11 0), .null, .int 0]) (j := 11) (ws' := (((((((((((([(a, .inr (11, [.ref (ad1 0), .ref (ad2 0), .ref (ad3 0), .ref (ad4 0), .ref (ad5 0), .ref (ad6 0), .ref q7, .ref q8, .ref (ad9 0), .ref (ad10 0), .ref (ad11 0), .ref q12, .int 0]))] ++ bX7 (cj_cA X) ad1) ++ bX6 (cj_cA X) ad2) ++ bX9 (cj_cA X) ad3) ++ bX9 (cj_cA X) ad4) ++ bX9 (cj_cA X) ad5) ++ bX1 (cj_cA X) ad6) ++ [(q7, .inl (cj_cA X 5, 2, .inr (.inr (.inr (.inr (fun _ => none))))))]) ++ [(q8, .inl (cj_cA X 6, 4, .inr (.inr (.inr (.inr (fun _ => none))))))]) ++ bX8 (cj_cA X) ad9) ++ bX5 (cj_cA X) ad10) ++ bX2 (cj_cA X) ad11) ++ [(q12, .inl (cj_cA X 0, 10, .inl (fun _ => 0)))])) C cfX11 (by decide) wd579 rfl rfl rfl (by decide) rfl rfl dX11_init_124 ?_
  refine cj_aload0 C dX11_init_127 rfl ?_
  refine cj_iconst (z := 1) C dX11_init_128 ?_
  refine cj_put (fs := [.ref (ad1 0), .ref (ad2 0), .ref (ad3 0), .ref (ad4 0), .ref (ad5 0), .ref (ad6 0), .ref q7, .ref q8, .ref (ad9 0), .ref (ad10 0), .ref (ad11 0), .ref q12, .int 0]) (j := 12) (ws' := (((((((((((([(a, .inr (11, [.ref (ad1 0), .ref (ad2 0), .ref (ad3 0), .ref (ad4 0), .ref (ad5 0), .ref (ad6 0), .ref q7, .ref q8, .ref (ad9 0), .ref (ad10 0), .ref (ad11 0), .ref q12, .int (Int32.ofInt 1)]))] ++ bX7 (cj_cA X) ad1) ++ bX6 (cj_cA X) ad2) ++ bX9 (cj_cA X) ad3) ++ bX9 (cj_cA X) ad4) ++ bX9 (cj_cA X) ad5) ++ bX1 (cj_cA X) ad6) ++ [(q7, .inl (cj_cA X 5, 2, .inr (.inr (.inr (.inr (fun _ => none))))))]) ++ [(q8, .inl (cj_cA X 6, 4, .inr (.inr (.inr (.inr (fun _ => none))))))]) ++ bX8 (cj_cA X) ad9) ++ bX5 (cj_cA X) ad10) ++ bX2 (cj_cA X) ad11) ++ [(q12, .inl (cj_cA X 0, 10, .inl (fun _ => 0)))])) C cfX11 (by decide) wd580 rfl rfl rfl (by decide) rfl rfl dX11_init_129 ?_
  refine cj_iconst (z := 0) C dX11_init_132 ?_
  refine cj_istore1 (a := a) (x := 0) C dX11_init_133 (by decide) (Or.inl rfl) ?_
  refine cj_iload1 C dX11_init_134 ?_
  refine cj_iconst (z := 2) C dX11_init_135 ?_
  refine cj_ge_f (tgt := 158) C dX11_init_136 (by decide) (by decide) (by decide) (by decide) ?_
  refine cj_aload0 C dX11_init_139 rfl ?_
  refine cj_getr (fs := [.ref (ad1 0), .ref (ad2 0), .ref (ad3 0), .ref (ad4 0), .ref (ad5 0), .ref (ad6 0), .ref q7, .ref q8, .ref (ad9 0), .ref (ad10 0), .ref (ad11 0), .ref q12, .int (Int32.ofInt 1)]) (j := 6) (v := .ref q7) C cfX11 (by decide) wd574 rfl rfl dX11_init_140 ?_
  refine cj_iload1 C dX11_init_143 ?_
  refine cj_newi C cfX3 wd378 wd530 wd140 (by decide) (kX3_init) (by decide) (by decide +kernel) (Or.inr ⟨"CageLift", List.mem_of_getElem? (i := 10) rfl⟩) wd532 wd533 (Nat.le_of_ble_eq_true rfl) (by decide) (by decide) dX11_init_144 dX11_init_147 dX11_init_148 (fun ad13 => ?_)
  refine cj_aast (ws' := ((((((((((((([(a, .inr (11, [.ref (ad1 0), .ref (ad2 0), .ref (ad3 0), .ref (ad4 0), .ref (ad5 0), .ref (ad6 0), .ref q7, .ref q8, .ref (ad9 0), .ref (ad10 0), .ref (ad11 0), .ref q12, .int (Int32.ofInt 1)]))] ++ bX7 (cj_cA X) ad1) ++ bX6 (cj_cA X) ad2) ++ bX9 (cj_cA X) ad3) ++ bX9 (cj_cA X) ad4) ++ bX9 (cj_cA X) ad5) ++ bX1 (cj_cA X) ad6) ++ [(q7, .inl (cj_cA X 5, 2, .inr (.inr (.inr (.inr (fun k => if k = 0 then some (ad13 0) else (fun _ => none) k))))))]) ++ [(q8, .inl (cj_cA X 6, 4, .inr (.inr (.inr (.inr (fun _ => none))))))]) ++ bX8 (cj_cA X) ad9) ++ bX5 (cj_cA X) ad10) ++ bX2 (cj_cA X) ad11) ++ [(q12, .inl (cj_cA X 0, 10, .inl (fun _ => 0)))]) ++ bX3 (cj_cA X) ad13)) (g := (fun k => if k = 0 then some (ad13 0) else (fun _ => none) k)) C 55 94 cfX3 (fun _ => rfl) rfl rfl (by decide) (by decide) (by funext k; simp [va_up]) rfl dX11_init_151 ?_
  refine cj_iinc1 (y := 1) C dX11_init_152 (by decide) (by decide) ?_
  refine cj_goto (tgt := 134) C dX11_init_155 (by decide) ?_
  refine cj_iload1 C dX11_init_134 ?_
  refine cj_iconst (z := 2) C dX11_init_135 ?_
  refine cj_ge_f (tgt := 158) C dX11_init_136 (by decide) (by decide) (by decide) (by decide) ?_
  refine cj_aload0 C dX11_init_139 rfl ?_
  refine cj_getr (fs := [.ref (ad1 0), .ref (ad2 0), .ref (ad3 0), .ref (ad4 0), .ref (ad5 0), .ref (ad6 0), .ref q7, .ref q8, .ref (ad9 0), .ref (ad10 0), .ref (ad11 0), .ref q12, .int (Int32.ofInt 1)]) (j := 6) (v := .ref q7) C cfX11 (by decide) wd574 rfl rfl dX11_init_140 ?_
  refine cj_iload1 C dX11_init_143 ?_
  refine cj_newi C cfX3 wd378 wd530 wd140 (by decide) (kX3_init) (by decide) (by decide +kernel) (Or.inr ⟨"CageLift", List.mem_of_getElem? (i := 10) rfl⟩) wd532 wd533 (Nat.le_of_ble_eq_true rfl) (by decide) (by decide) dX11_init_144 dX11_init_147 dX11_init_148 (fun ad14 => ?_)
  refine cj_aast (ws' := (((((((((((((([(a, .inr (11, [.ref (ad1 0), .ref (ad2 0), .ref (ad3 0), .ref (ad4 0), .ref (ad5 0), .ref (ad6 0), .ref q7, .ref q8, .ref (ad9 0), .ref (ad10 0), .ref (ad11 0), .ref q12, .int (Int32.ofInt 1)]))] ++ bX7 (cj_cA X) ad1) ++ bX6 (cj_cA X) ad2) ++ bX9 (cj_cA X) ad3) ++ bX9 (cj_cA X) ad4) ++ bX9 (cj_cA X) ad5) ++ bX1 (cj_cA X) ad6) ++ [(q7, .inl (cj_cA X 5, 2, .inr (.inr (.inr (.inr (fun k => if k = 1 then some (ad14 0) else (fun k => if k = 0 then some (ad13 0) else (fun _ => none) k) k))))))]) ++ [(q8, .inl (cj_cA X 6, 4, .inr (.inr (.inr (.inr (fun _ => none))))))]) ++ bX8 (cj_cA X) ad9) ++ bX5 (cj_cA X) ad10) ++ bX2 (cj_cA X) ad11) ++ [(q12, .inl (cj_cA X 0, 10, .inl (fun _ => 0)))]) ++ bX3 (cj_cA X) ad13) ++ bX3 (cj_cA X) ad14)) (g := (fun k => if k = 1 then some (ad14 0) else (fun k => if k = 0 then some (ad13 0) else (fun _ => none) k) k)) C 55 109 cfX3 (fun _ => rfl) rfl rfl (by decide) (by decide) (by funext k; simp [va_up]) rfl dX11_init_151 ?_
  refine cj_iinc1 (y := 2) C dX11_init_152 (by decide) (by decide) ?_
  refine cj_goto (tgt := 134) C dX11_init_155 (by decide) ?_
  refine cj_iload1 C dX11_init_134 ?_
  refine cj_iconst (z := 2) C dX11_init_135 ?_
  refine cj_ge_t (tgt := 158) C dX11_init_136 (by decide) (by decide) (by decide) (by decide) ?_
  refine cj_iconst (z := 0) C dX11_init_158 ?_
  refine cj_istore1 (a := a) (x := 0) C dX11_init_159 (by decide) (Or.inr ⟨_, rfl⟩) ?_
  refine cj_iload1 C dX11_init_160 ?_
  refine cj_iconst (z := 4) C dX11_init_161 ?_
  refine cj_ge_f (tgt := 184) C dX11_init_162 (by decide) (by decide) (by decide) (by decide) ?_
  refine cj_aload0 C dX11_init_165 rfl ?_
  refine cj_getr (fs := [.ref (ad1 0), .ref (ad2 0), .ref (ad3 0), .ref (ad4 0), .ref (ad5 0), .ref (ad6 0), .ref q7, .ref q8, .ref (ad9 0), .ref (ad10 0), .ref (ad11 0), .ref q12, .int (Int32.ofInt 1)]) (j := 7) (v := .ref q8) C cfX11 (by decide) wd575 rfl rfl dX11_init_166 ?_
  refine cj_iload1 C dX11_init_169 ?_
  refine cj_newi C cfX10 wd380 wd550 wd141 (by decide) (kX10_init) (by decide) (by decide +kernel) (Or.inr ⟨"CageLift", List.mem_of_getElem? (i := 13) rfl⟩) wd552 wd553 (Nat.le_of_ble_eq_true rfl) (by decide) (by decide) dX11_init_170 dX11_init_173 dX11_init_174 (fun ad15 => ?_)
  refine cj_aast (ws' := ((((((((((((((([(a, .inr (11, [.ref (ad1 0), .ref (ad2 0), .ref (ad3 0), .ref (ad4 0), .ref (ad5 0), .ref (ad6 0), .ref q7, .ref q8, .ref (ad9 0), .ref (ad10 0), .ref (ad11 0), .ref q12, .int (Int32.ofInt 1)]))] ++ bX7 (cj_cA X) ad1) ++ bX6 (cj_cA X) ad2) ++ bX9 (cj_cA X) ad3) ++ bX9 (cj_cA X) ad4) ++ bX9 (cj_cA X) ad5) ++ bX1 (cj_cA X) ad6) ++ [(q7, .inl (cj_cA X 5, 2, .inr (.inr (.inr (.inr (fun k => if k = 1 then some (ad14 0) else (fun k => if k = 0 then some (ad13 0) else (fun _ => none) k) k))))))]) ++ [(q8, .inl (cj_cA X 6, 4, .inr (.inr (.inr (.inr (fun k => if k = 0 then some (ad15 0) else (fun _ => none) k))))))]) ++ bX8 (cj_cA X) ad9) ++ bX5 (cj_cA X) ad10) ++ bX2 (cj_cA X) ad11) ++ [(q12, .inl (cj_cA X 0, 10, .inl (fun _ => 0)))]) ++ bX3 (cj_cA X) ad13) ++ bX3 (cj_cA X) ad14) ++ bX10 (cj_cA X) ad15)) (g := (fun k => if k = 0 then some (ad15 0) else (fun _ => none) k)) C 56 124 cfX10 (fun _ => rfl) rfl rfl (by decide) (by decide) (by funext k; simp [va_up]) rfl dX11_init_177 ?_
  refine cj_iinc1 (y := 1) C dX11_init_178 (by decide) (by decide) ?_
  refine cj_goto (tgt := 160) C dX11_init_181 (by decide) ?_
  refine cj_iload1 C dX11_init_160 ?_
  refine cj_iconst (z := 4) C dX11_init_161 ?_
  refine cj_ge_f (tgt := 184) C dX11_init_162 (by decide) (by decide) (by decide) (by decide) ?_
  refine cj_aload0 C dX11_init_165 rfl ?_
  refine cj_getr (fs := [.ref (ad1 0), .ref (ad2 0), .ref (ad3 0), .ref (ad4 0), .ref (ad5 0), .ref (ad6 0), .ref q7, .ref q8, .ref (ad9 0), .ref (ad10 0), .ref (ad11 0), .ref q12, .int (Int32.ofInt 1)]) (j := 7) (v := .ref q8) C cfX11 (by decide) wd575 rfl rfl dX11_init_166 ?_
  refine cj_iload1 C dX11_init_169 ?_
  refine cj_newi C cfX10 wd380 wd550 wd141 (by decide) (kX10_init) (by decide) (by decide +kernel) (Or.inr ⟨"CageLift", List.mem_of_getElem? (i := 13) rfl⟩) wd552 wd553 (Nat.le_of_ble_eq_true rfl) (by decide) (by decide) dX11_init_170 dX11_init_173 dX11_init_174 (fun ad16 => ?_)
  refine cj_aast (ws' := (((((((((((((((([(a, .inr (11, [.ref (ad1 0), .ref (ad2 0), .ref (ad3 0), .ref (ad4 0), .ref (ad5 0), .ref (ad6 0), .ref q7, .ref q8, .ref (ad9 0), .ref (ad10 0), .ref (ad11 0), .ref q12, .int (Int32.ofInt 1)]))] ++ bX7 (cj_cA X) ad1) ++ bX6 (cj_cA X) ad2) ++ bX9 (cj_cA X) ad3) ++ bX9 (cj_cA X) ad4) ++ bX9 (cj_cA X) ad5) ++ bX1 (cj_cA X) ad6) ++ [(q7, .inl (cj_cA X 5, 2, .inr (.inr (.inr (.inr (fun k => if k = 1 then some (ad14 0) else (fun k => if k = 0 then some (ad13 0) else (fun _ => none) k) k))))))]) ++ [(q8, .inl (cj_cA X 6, 4, .inr (.inr (.inr (.inr (fun k => if k = 1 then some (ad16 0) else (fun k => if k = 0 then some (ad15 0) else (fun _ => none) k) k))))))]) ++ bX8 (cj_cA X) ad9) ++ bX5 (cj_cA X) ad10) ++ bX2 (cj_cA X) ad11) ++ [(q12, .inl (cj_cA X 0, 10, .inl (fun _ => 0)))]) ++ bX3 (cj_cA X) ad13) ++ bX3 (cj_cA X) ad14) ++ bX10 (cj_cA X) ad15) ++ bX10 (cj_cA X) ad16)) (g := (fun k => if k = 1 then some (ad16 0) else (fun k => if k = 0 then some (ad15 0) else (fun _ => none) k) k)) C 56 126 cfX10 (fun _ => rfl) rfl rfl (by decide) (by decide) (by funext k; simp [va_up]) rfl dX11_init_177 ?_
  refine cj_iinc1 (y := 2) C dX11_init_178 (by decide) (by decide) ?_
  refine cj_goto (tgt := 160) C dX11_init_181 (by decide) ?_
  refine cj_iload1 C dX11_init_160 ?_
  refine cj_iconst (z := 4) C dX11_init_161 ?_
  refine cj_ge_f (tgt := 184) C dX11_init_162 (by decide) (by decide) (by decide) (by decide) ?_
  refine cj_aload0 C dX11_init_165 rfl ?_
  refine cj_getr (fs := [.ref (ad1 0), .ref (ad2 0), .ref (ad3 0), .ref (ad4 0), .ref (ad5 0), .ref (ad6 0), .ref q7, .ref q8, .ref (ad9 0), .ref (ad10 0), .ref (ad11 0), .ref q12, .int (Int32.ofInt 1)]) (j := 7) (v := .ref q8) C cfX11 (by decide) wd575 rfl rfl dX11_init_166 ?_
  refine cj_iload1 C dX11_init_169 ?_
  refine cj_newi C cfX10 wd380 wd550 wd141 (by decide) (kX10_init) (by decide) (by decide +kernel) (Or.inr ⟨"CageLift", List.mem_of_getElem? (i := 13) rfl⟩) wd552 wd553 (Nat.le_of_ble_eq_true rfl) (by decide) (by decide) dX11_init_170 dX11_init_173 dX11_init_174 (fun ad17 => ?_)
  refine cj_aast (ws' := ((((((((((((((((([(a, .inr (11, [.ref (ad1 0), .ref (ad2 0), .ref (ad3 0), .ref (ad4 0), .ref (ad5 0), .ref (ad6 0), .ref q7, .ref q8, .ref (ad9 0), .ref (ad10 0), .ref (ad11 0), .ref q12, .int (Int32.ofInt 1)]))] ++ bX7 (cj_cA X) ad1) ++ bX6 (cj_cA X) ad2) ++ bX9 (cj_cA X) ad3) ++ bX9 (cj_cA X) ad4) ++ bX9 (cj_cA X) ad5) ++ bX1 (cj_cA X) ad6) ++ [(q7, .inl (cj_cA X 5, 2, .inr (.inr (.inr (.inr (fun k => if k = 1 then some (ad14 0) else (fun k => if k = 0 then some (ad13 0) else (fun _ => none) k) k))))))]) ++ [(q8, .inl (cj_cA X 6, 4, .inr (.inr (.inr (.inr (fun k => if k = 2 then some (ad17 0) else (fun k => if k = 1 then some (ad16 0) else (fun k => if k = 0 then some (ad15 0) else (fun _ => none) k) k) k))))))]) ++ bX8 (cj_cA X) ad9) ++ bX5 (cj_cA X) ad10) ++ bX2 (cj_cA X) ad11) ++ [(q12, .inl (cj_cA X 0, 10, .inl (fun _ => 0)))]) ++ bX3 (cj_cA X) ad13) ++ bX3 (cj_cA X) ad14) ++ bX10 (cj_cA X) ad15) ++ bX10 (cj_cA X) ad16) ++ bX10 (cj_cA X) ad17)) (g := (fun k => if k = 2 then some (ad17 0) else (fun k => if k = 1 then some (ad16 0) else (fun k => if k = 0 then some (ad15 0) else (fun _ => none) k) k) k)) C 56 128 cfX10 (fun _ => rfl) rfl rfl (by decide) (by decide) (by funext k; simp [va_up]) rfl dX11_init_177 ?_
  refine cj_iinc1 (y := 3) C dX11_init_178 (by decide) (by decide) ?_
  refine cj_goto (tgt := 160) C dX11_init_181 (by decide) ?_
  refine cj_iload1 C dX11_init_160 ?_
  refine cj_iconst (z := 4) C dX11_init_161 ?_
  refine cj_ge_f (tgt := 184) C dX11_init_162 (by decide) (by decide) (by decide) (by decide) ?_
  refine cj_aload0 C dX11_init_165 rfl ?_
  refine cj_getr (fs := [.ref (ad1 0), .ref (ad2 0), .ref (ad3 0), .ref (ad4 0), .ref (ad5 0), .ref (ad6 0), .ref q7, .ref q8, .ref (ad9 0), .ref (ad10 0), .ref (ad11 0), .ref q12, .int (Int32.ofInt 1)]) (j := 7) (v := .ref q8) C cfX11 (by decide) wd575 rfl rfl dX11_init_166 ?_
  refine cj_iload1 C dX11_init_169 ?_
  refine cj_newi C cfX10 wd380 wd550 wd141 (by decide) (kX10_init) (by decide) (by decide +kernel) (Or.inr ⟨"CageLift", List.mem_of_getElem? (i := 13) rfl⟩) wd552 wd553 (Nat.le_of_ble_eq_true rfl) (by decide) (by decide) dX11_init_170 dX11_init_173 dX11_init_174 (fun ad18 => ?_)
  refine cj_aast (ws' := (((((((((((((((((([(a, .inr (11, [.ref (ad1 0), .ref (ad2 0), .ref (ad3 0), .ref (ad4 0), .ref (ad5 0), .ref (ad6 0), .ref q7, .ref q8, .ref (ad9 0), .ref (ad10 0), .ref (ad11 0), .ref q12, .int (Int32.ofInt 1)]))] ++ bX7 (cj_cA X) ad1) ++ bX6 (cj_cA X) ad2) ++ bX9 (cj_cA X) ad3) ++ bX9 (cj_cA X) ad4) ++ bX9 (cj_cA X) ad5) ++ bX1 (cj_cA X) ad6) ++ [(q7, .inl (cj_cA X 5, 2, .inr (.inr (.inr (.inr (fun k => if k = 1 then some (ad14 0) else (fun k => if k = 0 then some (ad13 0) else (fun _ => none) k) k))))))]) ++ [(q8, .inl (cj_cA X 6, 4, .inr (.inr (.inr (.inr (fun k => if k = 3 then some (ad18 0) else (fun k => if k = 2 then some (ad17 0) else (fun k => if k = 1 then some (ad16 0) else (fun k => if k = 0 then some (ad15 0) else (fun _ => none) k) k) k) k))))))]) ++ bX8 (cj_cA X) ad9) ++ bX5 (cj_cA X) ad10) ++ bX2 (cj_cA X) ad11) ++ [(q12, .inl (cj_cA X 0, 10, .inl (fun _ => 0)))]) ++ bX3 (cj_cA X) ad13) ++ bX3 (cj_cA X) ad14) ++ bX10 (cj_cA X) ad15) ++ bX10 (cj_cA X) ad16) ++ bX10 (cj_cA X) ad17) ++ bX10 (cj_cA X) ad18)) (g := (fun k => if k = 3 then some (ad18 0) else (fun k => if k = 2 then some (ad17 0) else (fun k => if k = 1 then some (ad16 0) else (fun k => if k = 0 then some (ad15 0) else (fun _ => none) k) k) k) k)) C 56 130 cfX10 (fun _ => rfl) rfl rfl (by decide) (by decide) (by funext k; simp [va_up]) rfl dX11_init_177 ?_
  refine cj_iinc1 (y := 4) C dX11_init_178 (by decide) (by decide) ?_
  refine cj_goto (tgt := 160) C dX11_init_181 (by decide) ?_
  refine cj_iload1 C dX11_init_160 ?_
  refine cj_iconst (z := 4) C dX11_init_161 ?_
  refine cj_ge_t (tgt := 184) C dX11_init_162 (by decide) (by decide) (by decide) (by decide) ?_
  exact cj_ret (ad := (fun k => if k < 1 then a else if k < 15 then ad1 (k - 1) else if k < 27 then ad2 (k - 15) else if k < 29 then ad3 (k - 27) else if k < 31 then ad4 (k - 29) else if k < 33 then ad5 (k - 31) else if k < 55 then ad6 (k - 33) else if k < 56 then q7 else if k < 57 then q8 else if k < 77 then ad9 (k - 57) else if k < 90 then ad10 (k - 77) else if k < 93 then ad11 (k - 90) else if k < 94 then q12 else if k < 109 then ad13 (k - 94) else if k < 124 then ad14 (k - 109) else if k < 126 then ad15 (k - 124) else if k < 128 then ad16 (k - 126) else if k < 130 then ad17 (k - 128) else if k < 132 then ad18 (k - 130) else 0)) C K rfl rfl rfl rfl dX11_init_184
