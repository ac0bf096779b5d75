/-! EVERY ROUND OF THE LAW (printed by wip/gen/law98n.py) -/
theorem r32 {x : Int32} : rI x.toInt := by
  have h1 := Int32.le_toInt x
  have h2 := Int32.toInt_lt x
  exact ⟨by omega, by omega⟩
theorem r64 {x : Int64} : rL x.toInt := by
  have h1 := Int64.le_toInt x
  have h2 := Int64.toInt_lt x
  exact ⟨by omega, by omega⟩
set_option maxHeartbeats 4000000 in
theorem law_all {f : Nat} (hf : 10000 ≤ f) (xs : Nat → Int32) {L : Nat} (hL : L ≤ 3072) : ∀ (k : Nat) (v3 : Int) (m : aj_M), gInv m → 0 ≤ v3 → v3 ≤ L → (L : Int) < v3 + 6 * (k : Int) → hL_law_18 f (fun _ => True) xs k L [300] [0] [1] v3 m := by
  intro k
  induction k with
  | zero => intro v3 m _ h1 h2 h3; omega
  | succ k ih =>
    intro v3 m H h1 h2 h3
    unfold hL_law_18
    refine ⟨⟨by omega, by omega⟩, ⟨by omega, by omega⟩, fun _ => trivial, fun c => ?_⟩
    have b0 : 0 ≤ v3 + 0 ∧ v3 + 0 < (L : Int) := ⟨by omega, by omega⟩
    have b1 : 0 ≤ v3 + 1 ∧ v3 + 1 < (L : Int) := ⟨by omega, by omega⟩
    have b2 : 0 ≤ v3 + 2 ∧ v3 + 2 < (L : Int) := ⟨by omega, by omega⟩
    have b3 : 0 ≤ v3 + 3 ∧ v3 + 3 < (L : Int) := ⟨by omega, by omega⟩
    have b4 : 0 ≤ v3 + 4 ∧ v3 + 4 < (L : Int) := ⟨by omega, by omega⟩
    have b5 : 0 ≤ v3 + 5 ∧ v3 + 5 < (L : Int) := ⟨by omega, by omega⟩
    have hX : ∀ m', gInv m' → hL_law_18 f (fun _ => True) xs k L [300] [0] [1] (v3 + 6) m' := fun m' H' => ih (v3 + 6) m' H' (by omega) (by omega) (by omega)
    refine ⟨⟨h1, by omega⟩, r32, fun _ => hX m H, fun _ => ?_, fun _ => ?_, fun _ => ?_, fun _ => ?_, fun _ => ?_, fun _ => ?_, fun _ => ?_, fun _ => ?_, fun _ => ?_, fun _ => ?_, fun _ => ?_, fun _ => ?_, fun _ => ?_, fun _ => ?_, fun _ => ?_, fun _ => ?_, fun _ => ?_, fun _ => ?_, fun _ => ?_, fun _ => ?_, fun _ => ?_, fun _ => ?_, fun _ => ?_, fun _ => ?_, fun _ => ?_, fun _ => ?_, fun _ => ?_, fun _ => ?_, fun _ => ?_, fun _ => ?_, fun _ => ?_, fun _ => ?_, fun _ => ?_, fun _ => ?_, fun _ => ?_, fun _ => ?_, fun _ => ?_, fun _ => ?_, fun _ => ?_, fun _ => ?_, fun _ => ?_, fun _ => ?_, fun _ => ?_, fun _ => ?_, fun _ => ?_, fun _ => ?_, fun _ => ?_, fun _ => ?_⟩
    · exact ⟨b1, b2, b3, b4, b5, cl_feed hf H hX _ (fun z m1 h => ⟨b1, b2, b3, b4, b5, h⟩)⟩
    · exact ⟨b1, cl_works hf H hX r32 _ (fun z m1 h => ⟨b1, h⟩)⟩
    · exact ⟨b1, cl_fault hf H hX r32 _ (fun z m1 h => ⟨b1, h⟩)⟩
    · exact ⟨b1, b2, cl_arc hf H hX r32 r32 _ (fun z m1 h => ⟨b1, b2, h⟩)⟩
    · exact ⟨b1, b2, cl_product hf H hX r32 r32 _ (fun z m1 h => ⟨b1, b2, h⟩)⟩
    · exact ⟨b1, cl_inverse hf H hX r32 _ (fun z m1 h => ⟨b1, h⟩)⟩
    · exact ⟨b1, cl_orderOf hf H hX r32 _ (fun z m1 h => ⟨b1, h⟩)⟩
    · exact cl_centre hf H hX _ (fun z m1 h => h)
    · exact ⟨b1, b2, cl_turn hf H hX r32 r32 _ (fun z m1 h => ⟨b1, b2, h⟩)⟩
    · exact ⟨b1, cl_cut hf H hX r32 _ (fun z m1 h => ⟨b1, h⟩)⟩
    · exact ⟨b1, cl_twist hf H hX r32 _ (fun z m1 h => ⟨b1, h⟩)⟩
    · exact ⟨b1, cl_undo hf H hX r32 _ (fun z m1 h => ⟨b1, h⟩)⟩
    · exact ⟨b1, b2, cl_judge hf H hX r32 r32 _ (fun z m1 h => ⟨b1, b2, h⟩)⟩
    · exact ⟨b1, cl_perform hf H hX r32 _ (fun z m1 h => ⟨b1, h⟩)⟩
    · exact ⟨b1, b2, cl_day hf H hX r32 r32 _ (fun z m1 h => ⟨b1, b2, h⟩)⟩
    · exact ⟨b1, b2, cl_joins hf H hX r32 r32 _ (fun z m1 h => ⟨b1, b2, h⟩)⟩
    · exact ⟨b1, cl_degree hf H hX r32 _ (fun z m1 h => ⟨b1, h⟩)⟩
    · exact ⟨b1, b2, cl_neighbour hf H hX r32 r32 _ (fun z m1 h => ⟨b1, b2, h⟩)⟩
    · exact cl_regular hf H hX _ (fun z m1 h => h)
    · exact cl_parts hf H hX _ (fun z m1 h => h)
    · exact cl_twoColours hf H hX _ (fun z m1 h => h)
    · exact ⟨b1, b2, cl_far hf H hX r32 r32 _ (fun z m1 h => ⟨b1, b2, h⟩)⟩
    · exact cl_diameter hf H hX _ (fun z m1 h => h)
    · exact ⟨b1, b2, cl_ball hf H hX r32 r32 _ (fun z m1 h => ⟨b1, b2, h⟩)⟩
    · exact cl_girth hf H hX _ (fun z m1 h => h)
    · exact ⟨b1, cl_ring hf H hX r32 _ (fun z m1 h => ⟨b1, h⟩)⟩
    · exact ⟨b1, cl_rings hf H hX r32 _ (fun z m1 h => ⟨b1, h⟩)⟩
    · exact ⟨b1, cl_through hf H hX r32 _ (fun z m1 h => ⟨b1, h⟩)⟩
    · exact ⟨b1, b2, cl_bound hf H hX r32 r32 _ (fun z m1 h => ⟨b1, b2, h⟩)⟩
    · exact cl_excess hf H hX _ (fun z m1 h => h)
    · exact ⟨b1, b2, cl_light hf H hX r32 r32 _ (fun z m1 h => ⟨b1, b2, h⟩)⟩
    · exact cl_lightest hf H hX _ (fun z m1 h => h)
    · exact ⟨b1, cl_walk hf H hX r32 _ (fun z m1 h => ⟨b1, h⟩)⟩
    · exact ⟨b1, cl_lifted hf H hX r32 _ (fun z m1 h => ⟨b1, h⟩)⟩
    · exact ⟨b1, cl_tune hf H hX r32 _ (fun z m1 h => ⟨b1, h⟩)⟩
    · exact ⟨b1, cl_tuned hf H hX r32 _ (fun z m1 h => ⟨b1, h⟩)⟩
    · exact ⟨b1, b2, b3, b4, cl_search hf H hX r32 r32 r32 r32 _ (fun z m1 h => ⟨b1, b2, b3, b4, h⟩)⟩
    · exact ⟨b1, b2, b3, b4, b5, cl_found hf H hX r32 r32 r32 r32 r32 _ (fun z m1 h => ⟨b1, b2, b3, b4, b5, h⟩)⟩
    · exact ⟨b1, cl_twists hf H hX r32 _ (fun z m1 h => ⟨b1, h⟩)⟩
    · exact ⟨b1, cl_weigh hf H hX r32 we_r _ (fun z m1 h => ⟨b1, h⟩)⟩
    · exact ⟨b1, b2, b3, cl_chance hf H hX r32 r32 r32 _ (fun z m1 h => ⟨b1, b2, b3, h⟩)⟩
    · exact ⟨b1, b2, cl_mean hf H hX r32 r32 _ (fun z m1 h => ⟨b1, b2, h⟩)⟩
    · exact ⟨b1, b2, b3, cl_numbers hf H hX r32 r32 r32 _ (fun z m1 h => ⟨b1, b2, b3, h⟩)⟩
    · exact ⟨b1, b2, b3, r32, b4, r32, cl_write hf H hX r32 r32 r64 _ (fun z m1 h => ⟨b1, b2, b3, r32, b4, r32, h⟩)⟩
    · exact ⟨b1, cl_lists hf H hX r32 _ (fun z m1 h => ⟨b1, h⟩)⟩
    · exact ⟨b1, cl_image hf H hX r32 _ (fun z m1 h => ⟨b1, h⟩)⟩
    · exact ⟨b1, cl_restore hf H hX r32 _ (fun z m1 h => ⟨b1, h⟩)⟩
    · exact ⟨b1, cl_count hf H hX r32 _ (fun z m1 h => ⟨b1, h⟩)⟩
