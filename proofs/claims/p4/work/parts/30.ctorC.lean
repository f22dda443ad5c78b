/-! CONSTRUCTORS: walked by program (wip/gen/ctor.py) -/
def z32 (n : Nat) : List Int32 := List.replicate n 0
def z64 (n : Nat) : List Int64 := List.replicate n 0
abbrev kN (h1 : AH) : AH → Option Value → Prop := fun h w => h = h1 ∧ w = none
theorem vpd {i : Int32} {n : Nat} (h : decide (¬ (i < 0 ∨ n ≤ i.toNatClampNeg)) = true) : vp_in i n := of_decide_eq_true (p := ¬ (i < 0 ∨ n ≤ i.toNatClampNeg)) h
section CTOR
variable {l : Launch} {X : List (List Int32)}
set_option maxRecDepth 100000 in
set_option maxHeartbeats 4000000 in
theorem i_c0 : Ctr l 1 X sgX6_init [.ref 1] [AO 7 [.null, .null, .null, .null, .null, .null, .null, .null, .int 0], AO 6 [.null, .int 0, .int 0, .int 0, .int 0, .int 0]] (kN [AO 7 [.null, .null, .null, .null, .null, .null, .null, .null, .int 0], AO 6 [.ref 2, .int 0, .int 0, .int 0, .int 0, .int 0], AI (z32 160)]) := by
  refine Ctr.of okX6_init rfl (Nat.le_of_ble_eq_true rfl) (run_sound okX6_init noCut 27 ?_)
  refine And.intro (by decide) ?_
  refine And.intro rfl (And.intro (by decide) (And.intro (by decide) (And.intro (by decide) ?_)))
  refine And.intro trivial ?_
  exact ⟨rfl, rfl, rfl⟩
set_option maxRecDepth 100000 in
set_option maxHeartbeats 4000000 in
theorem i_c1 : Ctr l 1 X sgX0_init [.ref 3] [AO 7 [.ref 1, .null, .null, .null, .null, .null, .null, .null, .int 0], AO 6 [.ref 2, .int 0, .int 0, .int 0, .int 0, .int 0], AI (z32 160), AO 0 [.null, .null, .null, .null, .int 0, .int 0]] (kN [AO 7 [.ref 1, .null, .null, .null, .null, .null, .null, .null, .int 0], AO 6 [.ref 2, .int 0, .int 0, .int 0, .int 0, .int 0], AI (z32 160), AO 0 [.ref 4, .ref 5, .ref 6, .ref 7, .int 0, .int 0], AI (z32 160), AI (z32 160), AI (z32 4), AI (z32 160)]) := by
  refine Ctr.of okX0_init rfl (Nat.le_of_ble_eq_true rfl) (run_sound okX0_init noCut 39 ?_)
  refine And.intro (by decide) ?_
  refine And.intro rfl (And.intro (by decide) (And.intro (by decide) (And.intro (by decide) ?_)))
  refine And.intro trivial ?_
  refine And.intro rfl (And.intro (by decide) (And.intro (by decide) (And.intro (by decide) ?_)))
  refine And.intro trivial ?_
  refine And.intro rfl (And.intro (by decide) (And.intro (by decide) (And.intro (by decide) ?_)))
  refine And.intro trivial ?_
  refine And.intro rfl (And.intro (by decide) (And.intro (by decide) (And.intro (by decide) ?_)))
  refine And.intro trivial ?_
  exact ⟨rfl, rfl, rfl⟩
set_option maxRecDepth 100000 in
set_option maxHeartbeats 4000000 in
theorem i_c2 : Ctr l 1 X sgX1_init [.ref 8, .ref 1, .ref 3] [AO 7 [.ref 1, .ref 3, .null, .null, .null, .null, .null, .null, .int 0], AO 6 [.ref 2, .int 0, .int 0, .int 0, .int 0, .int 0], AI (z32 160), AO 0 [.ref 4, .ref 5, .ref 6, .ref 7, .int 0, .int 0], AI (z32 160), AI (z32 160), AI (z32 4), AI (z32 160), AO 1 [.null, .null]] (kN [AO 7 [.ref 1, .ref 3, .null, .null, .null, .null, .null, .null, .int 0], AO 6 [.ref 2, .int 0, .int 0, .int 0, .int 0, .int 0], AI (z32 160), AO 0 [.ref 4, .ref 5, .ref 6, .ref 7, .int 0, .int 0], AI (z32 160), AI (z32 160), AI (z32 4), AI (z32 160), AO 1 [.ref 1, .ref 3]]) := by
  refine Ctr.of okX1_init rfl (Nat.le_of_ble_eq_true rfl) (run_sound okX1_init noCut 30 ?_)
  refine And.intro (by decide) ?_
  refine And.intro trivial ?_
  refine And.intro trivial ?_
  exact ⟨rfl, rfl, rfl⟩
set_option maxRecDepth 100000 in
set_option maxHeartbeats 4000000 in
theorem i_c3 : Ctr l 1 X sgX5_init [.ref 9] [AO 7 [.ref 1, .ref 3, .ref 8, .null, .null, .null, .null, .null, .int 0], AO 6 [.ref 2, .int 0, .int 0, .int 0, .int 0, .int 0], AI (z32 160), AO 0 [.ref 4, .ref 5, .ref 6, .ref 7, .int 0, .int 0], AI (z32 160), AI (z32 160), AI (z32 4), AI (z32 160), AO 1 [.ref 1, .ref 3], AO 5 [.null, .null, .null, .int 0]] (kN [AO 7 [.ref 1, .ref 3, .ref 8, .null, .null, .null, .null, .null, .int 0], AO 6 [.ref 2, .int 0, .int 0, .int 0, .int 0, .int 0], AI (z32 160), AO 0 [.ref 4, .ref 5, .ref 6, .ref 7, .int 0, .int 0], AI (z32 160), AI (z32 160), AI (z32 4), AI (z32 160), AO 1 [.ref 1, .ref 3], AO 5 [.ref 10, .ref 11, .ref 12, .int 1], AI ([-1, -1, -1, -1, -1] ++ z32 25), AI (z32 30), AI ([1, 1, 1, 1, 1] ++ z32 25)]) := by
  refine Ctr.of okX5_init rfl (Nat.le_of_ble_eq_true rfl) (run_sound okX5_init noCut 118 ?_)
  refine And.intro (by decide) ?_
  refine And.intro rfl (And.intro (by decide) (And.intro (by decide) (And.intro (by decide) ?_)))
  refine And.intro trivial ?_
  refine And.intro rfl (And.intro (by decide) (And.intro (by decide) (And.intro (by decide) ?_)))
  refine And.intro trivial ?_
  refine And.intro rfl (And.intro (by decide) (And.intro (by decide) (And.intro (by decide) ?_)))
  refine And.intro trivial ?_
  refine brF (by decide) ?_
  refine kH (c_put rfl rfl (by decide)) (by decide) ?_
  refine kH (c_put rfl rfl (by decide)) (by decide) ?_
  refine brF (by decide) ?_
  refine kH (c_put rfl rfl (by decide)) (by decide) ?_
  refine kH (c_put rfl rfl (by decide)) (by decide) ?_
  refine brF (by decide) ?_
  refine kH (c_put rfl rfl (by decide)) (by decide) ?_
  refine kH (c_put rfl rfl (by decide)) (by decide) ?_
  refine brF (by decide) ?_
  refine kH (c_put rfl rfl (by decide)) (by decide) ?_
  refine kH (c_put rfl rfl (by decide)) (by decide) ?_
  refine brF (by decide) ?_
  refine kH (c_put rfl rfl (by decide)) (by decide) ?_
  refine kH (c_put rfl rfl (by decide)) (by decide) ?_
  refine brT (by decide) ?_
  refine And.intro trivial ?_
  exact ⟨rfl, rfl, rfl⟩
set_option maxRecDepth 100000 in
set_option maxHeartbeats 4000000 in
theorem i_c4 : Ctr l 1 X sgX4_init [.ref 13] [AO 7 [.ref 1, .ref 3, .ref 8, .ref 9, .null, .null, .null, .null, .int 0], AO 6 [.ref 2, .int 0, .int 0, .int 0, .int 0, .int 0], AI (z32 160), AO 0 [.ref 4, .ref 5, .ref 6, .ref 7, .int 0, .int 0], AI (z32 160), AI (z32 160), AI (z32 4), AI (z32 160), AO 1 [.ref 1, .ref 3], AO 5 [.ref 10, .ref 11, .ref 12, .int 1], AI ([-1, -1, -1, -1, -1] ++ z32 25), AI (z32 30), AI ([1, 1, 1, 1, 1] ++ z32 25), AO 4 [.null, .null, .null, .int 0, .int 0, .int 0]] (kN [AO 7 [.ref 1, .ref 3, .ref 8, .ref 9, .null, .null, .null, .null, .int 0], AO 6 [.ref 2, .int 0, .int 0, .int 0, .int 0, .int 0], AI (z32 160), AO 0 [.ref 4, .ref 5, .ref 6, .ref 7, .int 0, .int 0], AI (z32 160), AI (z32 160), AI (z32 4), AI (z32 160), AO 1 [.ref 1, .ref 3], AO 5 [.ref 10, .ref 11, .ref 12, .int 1], AI ([-1, -1, -1, -1, -1] ++ z32 25), AI (z32 30), AI ([1, 1, 1, 1, 1] ++ z32 25), AO 4 [.ref 14, .ref 15, .ref 16, .int 0, .int 0, .int 0], AI (z32 5), AI (z32 5), AI (z32 36)]) := by
  refine Ctr.of okX4_init rfl (Nat.le_of_ble_eq_true rfl) (run_sound okX4_init noCut 35 ?_)
  refine And.intro (by decide) ?_
  refine And.intro rfl (And.intro (by decide) (And.intro (by decide) (And.intro (by decide) ?_)))
  refine And.intro trivial ?_
  refine And.intro rfl (And.intro (by decide) (And.intro (by decide) (And.intro (by decide) ?_)))
  refine And.intro trivial ?_
  refine And.intro rfl (And.intro (by decide) (And.intro (by decide) (And.intro (by decide) ?_)))
  refine And.intro trivial ?_
  exact ⟨rfl, rfl, rfl⟩
set_option maxRecDepth 100000 in
set_option maxHeartbeats 4000000 in
theorem i_c5 : Ctr l 1 X sgX4_init [.ref 17] [AO 7 [.ref 1, .ref 3, .ref 8, .ref 9, .ref 13, .null, .null, .null, .int 0], AO 6 [.ref 2, .int 0, .int 0, .int 0, .int 0, .int 0], AI (z32 160), AO 0 [.ref 4, .ref 5, .ref 6, .ref 7, .int 0, .int 0], AI (z32 160), AI (z32 160), AI (z32 4), AI (z32 160), AO 1 [.ref 1, .ref 3], AO 5 [.ref 10, .ref 11, .ref 12, .int 1], AI ([-1, -1, -1, -1, -1] ++ z32 25), AI (z32 30), AI ([1, 1, 1, 1, 1] ++ z32 25), AO 4 [.ref 14, .ref 15, .ref 16, .int 0, .int 0, .int 0], AI (z32 5), AI (z32 5), AI (z32 36), AO 4 [.null, .null, .null, .int 0, .int 0, .int 0]] (kN [AO 7 [.ref 1, .ref 3, .ref 8, .ref 9, .ref 13, .null, .null, .null, .int 0], AO 6 [.ref 2, .int 0, .int 0, .int 0, .int 0, .int 0], AI (z32 160), AO 0 [.ref 4, .ref 5, .ref 6, .ref 7, .int 0, .int 0], AI (z32 160), AI (z32 160), AI (z32 4), AI (z32 160), AO 1 [.ref 1, .ref 3], AO 5 [.ref 10, .ref 11, .ref 12, .int 1], AI ([-1, -1, -1, -1, -1] ++ z32 25), AI (z32 30), AI ([1, 1, 1, 1, 1] ++ z32 25), AO 4 [.ref 14, .ref 15, .ref 16, .int 0, .int 0, .int 0], AI (z32 5), AI (z32 5), AI (z32 36), AO 4 [.ref 18, .ref 19, .ref 20, .int 0, .int 0, .int 0], AI (z32 5), AI (z32 5), AI (z32 36)]) := by
  refine Ctr.of okX4_init rfl (Nat.le_of_ble_eq_true rfl) (run_sound okX4_init noCut 35 ?_)
  refine And.intro (by decide) ?_
  refine And.intro rfl (And.intro (by decide) (And.intro (by decide) (And.intro (by decide) ?_)))
  refine And.intro trivial ?_
  refine And.intro rfl (And.intro (by decide) (And.intro (by decide) (And.intro (by decide) ?_)))
  refine And.intro trivial ?_
  refine And.intro rfl (And.intro (by decide) (And.intro (by decide) (And.intro (by decide) ?_)))
  refine And.intro trivial ?_
  exact ⟨rfl, rfl, rfl⟩
set_option maxRecDepth 100000 in
set_option maxHeartbeats 4000000 in
theorem i_c6 : Ctr l 1 X sgX3_init [.ref 21] [AO 7 [.ref 1, .ref 3, .ref 8, .ref 9, .ref 13, .ref 17, .null, .null, .int 0], AO 6 [.ref 2, .int 0, .int 0, .int 0, .int 0, .int 0], AI (z32 160), AO 0 [.ref 4, .ref 5, .ref 6, .ref 7, .int 0, .int 0], AI (z32 160), AI (z32 160), AI (z32 4), AI (z32 160), AO 1 [.ref 1, .ref 3], AO 5 [.ref 10, .ref 11, .ref 12, .int 1], AI ([-1, -1, -1, -1, -1] ++ z32 25), AI (z32 30), AI ([1, 1, 1, 1, 1] ++ z32 25), AO 4 [.ref 14, .ref 15, .ref 16, .int 0, .int 0, .int 0], AI (z32 5), AI (z32 5), AI (z32 36), AO 4 [.ref 18, .ref 19, .ref 20, .int 0, .int 0, .int 0], AI (z32 5), AI (z32 5), AI (z32 36), AO 3 [.null, .null, .null, .null]] (kN [AO 7 [.ref 1, .ref 3, .ref 8, .ref 9, .ref 13, .ref 17, .null, .null, .int 0], AO 6 [.ref 2, .int 0, .int 0, .int 0, .int 0, .int 0], AI (z32 160), AO 0 [.ref 4, .ref 5, .ref 6, .ref 7, .int 0, .int 0], AI (z32 160), AI (z32 160), AI (z32 4), AI (z32 160), AO 1 [.ref 1, .ref 3], AO 5 [.ref 10, .ref 11, .ref 12, .int 1], AI ([-1, -1, -1, -1, -1] ++ z32 25), AI (z32 30), AI ([1, 1, 1, 1, 1] ++ z32 25), AO 4 [.ref 14, .ref 15, .ref 16, .int 0, .int 0, .int 0], AI (z32 5), AI (z32 5), AI (z32 36), AO 4 [.ref 18, .ref 19, .ref 20, .int 0, .int 0, .int 0], AI (z32 5), AI (z32 5), AI (z32 36), AO 3 [.ref 22, .ref 23, .ref 24, .ref 25], AI ([-1, -1, -1, -1]), AI (z32 4), AI (z32 160), AI (z32 40)]) := by
  refine Ctr.of okX3_init rfl (Nat.le_of_ble_eq_true rfl) (run_sound okX3_init noCut 84 ?_)
  refine And.intro (by decide) ?_
  refine And.intro rfl (And.intro (by decide) (And.intro (by decide) (And.intro (by decide) ?_)))
  refine And.intro trivial ?_
  refine And.intro rfl (And.intro (by decide) (And.intro (by decide) (And.intro (by decide) ?_)))
  refine And.intro trivial ?_
  refine And.intro rfl (And.intro (by decide) (And.intro (by decide) (And.intro (by decide) ?_)))
  refine And.intro trivial ?_
  refine And.intro rfl (And.intro (by decide) (And.intro (by decide) (And.intro (by decide) ?_)))
  refine And.intro trivial ?_
  refine brF (by decide) ?_
  refine kH (c_put rfl rfl (by decide)) (by decide) ?_
  refine brF (by decide) ?_
  refine kH (c_put rfl rfl (by decide)) (by decide) ?_
  refine brF (by decide) ?_
  refine kH (c_put rfl rfl (by decide)) (by decide) ?_
  refine brF (by decide) ?_
  refine kH (c_put rfl rfl (by decide)) (by decide) ?_
  refine brT (by decide) ?_
  exact ⟨rfl, rfl, rfl⟩
set_option maxRecDepth 100000 in
set_option maxHeartbeats 4000000 in
theorem i_c7 : Ctr l 1 X sgX2_init [.ref 26] [AO 7 [.ref 1, .ref 3, .ref 8, .ref 9, .ref 13, .ref 17, .ref 21, .null, .int 0], AO 6 [.ref 2, .int 0, .int 0, .int 0, .int 0, .int 0], AI (z32 160), AO 0 [.ref 4, .ref 5, .ref 6, .ref 7, .int 0, .int 0], AI (z32 160), AI (z32 160), AI (z32 4), AI (z32 160), AO 1 [.ref 1, .ref 3], AO 5 [.ref 10, .ref 11, .ref 12, .int 1], AI ([-1, -1, -1, -1, -1] ++ z32 25), AI (z32 30), AI ([1, 1, 1, 1, 1] ++ z32 25), AO 4 [.ref 14, .ref 15, .ref 16, .int 0, .int 0, .int 0], AI (z32 5), AI (z32 5), AI (z32 36), AO 4 [.ref 18, .ref 19, .ref 20, .int 0, .int 0, .int 0], AI (z32 5), AI (z32 5), AI (z32 36), AO 3 [.ref 22, .ref 23, .ref 24, .ref 25], AI ([-1, -1, -1, -1]), AI (z32 4), AI (z32 160), AI (z32 40), AO 2 [.int 0, .int 0, .int 0, .int 0]] (kN [AO 7 [.ref 1, .ref 3, .ref 8, .ref 9, .ref 13, .ref 17, .ref 21, .null, .int 0], AO 6 [.ref 2, .int 0, .int 0, .int 0, .int 0, .int 0], AI (z32 160), AO 0 [.ref 4, .ref 5, .ref 6, .ref 7, .int 0, .int 0], AI (z32 160), AI (z32 160), AI (z32 4), AI (z32 160), AO 1 [.ref 1, .ref 3], AO 5 [.ref 10, .ref 11, .ref 12, .int 1], AI ([-1, -1, -1, -1, -1] ++ z32 25), AI (z32 30), AI ([1, 1, 1, 1, 1] ++ z32 25), AO 4 [.ref 14, .ref 15, .ref 16, .int 0, .int 0, .int 0], AI (z32 5), AI (z32 5), AI (z32 36), AO 4 [.ref 18, .ref 19, .ref 20, .int 0, .int 0, .int 0], AI (z32 5), AI (z32 5), AI (z32 36), AO 3 [.ref 22, .ref 23, .ref 24, .ref 25], AI ([-1, -1, -1, -1]), AI (z32 4), AI (z32 160), AI (z32 40), AO 2 [.int 0, .int 0, .int 0, .int 0]]) := by
  refine Ctr.of okX2_init rfl (Nat.le_of_ble_eq_true rfl) (run_sound okX2_init noCut 23 ?_)
  refine And.intro (by decide) ?_
  exact ⟨rfl, rfl, rfl⟩
set_option maxRecDepth 100000 in
set_option maxHeartbeats 4000000 in
theorem i_class : Ctr l 2 X sgX7_init [.ref 0] [AO 7 [.null, .null, .null, .null, .null, .null, .null, .null, .int 0]] (kN [AO 7 [.ref 1, .ref 3, .ref 8, .ref 9, .ref 13, .ref 17, .ref 21, .ref 26, .int 0], AO 6 [.ref 2, .int 0, .int 0, .int 0, .int 0, .int 0], AI (z32 160), AO 0 [.ref 4, .ref 5, .ref 6, .ref 7, .int 0, .int 0], AI (z32 160), AI (z32 160), AI (z32 4), AI (z32 160), AO 1 [.ref 1, .ref 3], AO 5 [.ref 10, .ref 11, .ref 12, .int 1], AI ([-1, -1, -1, -1, -1] ++ z32 25), AI (z32 30), AI ([1, 1, 1, 1, 1] ++ z32 25), AO 4 [.ref 14, .ref 15, .ref 16, .int 0, .int 0, .int 0], AI (z32 5), AI (z32 5), AI (z32 36), AO 4 [.ref 18, .ref 19, .ref 20, .int 0, .int 0, .int 0], AI (z32 5), AI (z32 5), AI (z32 36), AO 3 [.ref 22, .ref 23, .ref 24, .ref 25], AI ([-1, -1, -1, -1]), AI (z32 4), AI (z32 160), AI (z32 40), AO 2 [.int 0, .int 0, .int 0, .int 0]]) := by
  refine Ctr.of okX7_init rfl (Nat.le_of_ble_eq_true rfl) (run_sound okX7_init noCut 70 ?_)
  refine And.intro (by decide) ?_
  refine And.intro rfl (And.intro (by decide) (And.intro (by decide) ?_))
  refine And.intro rfl ?_
  refine kH (i_c0) (by decide) ?_
  refine And.intro trivial ?_
  refine And.intro rfl (And.intro (by decide) (And.intro (by decide) ?_))
  refine And.intro rfl ?_
  refine kH (i_c1) (by decide) ?_
  refine And.intro trivial ?_
  refine And.intro rfl (And.intro (by decide) (And.intro (by decide) ?_))
  refine And.intro rfl ?_
  refine kH (i_c2) (by decide) ?_
  refine And.intro trivial ?_
  refine And.intro rfl (And.intro (by decide) (And.intro (by decide) ?_))
  refine And.intro rfl ?_
  refine kH (i_c3) (by decide) ?_
  refine And.intro trivial ?_
  refine And.intro rfl (And.intro (by decide) (And.intro (by decide) ?_))
  refine And.intro rfl ?_
  refine kH (i_c4) (by decide) ?_
  refine And.intro trivial ?_
  refine And.intro rfl (And.intro (by decide) (And.intro (by decide) ?_))
  refine And.intro rfl ?_
  refine kH (i_c5) (by decide) ?_
  refine And.intro trivial ?_
  refine And.intro rfl (And.intro (by decide) (And.intro (by decide) ?_))
  refine And.intro rfl ?_
  refine kH (i_c6) (by decide) ?_
  refine And.intro trivial ?_
  refine And.intro rfl (And.intro (by decide) (And.intro (by decide) ?_))
  refine And.intro rfl ?_
  refine kH (i_c7) (by decide) ?_
  refine And.intro trivial ?_
  refine And.intro (Or.inl rfl) ?_
  exact ⟨rfl, rfl, rfl⟩
end CTOR
/-- a new object -/
def CS0 : CS := (fun k => if k = 93 then 1 else 0, fun k => match k with
  | 2 => z32 160 | 4 => z32 160 | 5 => z32 160 | 6 => z32 4 | 7 => z32 160
  | 10 => [-1, -1, -1, -1, -1] ++ z32 25 | 11 => z32 30 | 12 => [1, 1, 1, 1, 1] ++ z32 25
  | 14 => z32 5 | 15 => z32 5 | 16 => z32 36 | 18 => z32 5 | 19 => z32 5 | 20 => z32 36
  | 22 => [-1, -1, -1, -1] | 23 => z32 4 | 24 => z32 160 | 25 => z32 40 | _ => [])
theorem i_class0 {l : Launch} {X : List (List Int32)} : Ctr l 2 X sgX7_init [.ref 0] [AO 7 (dfl 7 9)] (kN (encC CS0)) := i_class
