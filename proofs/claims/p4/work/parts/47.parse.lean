/-! THE REFERENCE's held signs and codes -/
section PARSE
variable {l : Launch} {X : List (List Int32)} {S : CS} {M : MS} {hp : AH}
def rkF (v : Int32) : Int32 :=
  if v = Int32.ofInt 0 then Int32.ofInt 0 else if v = Int32.ofInt 11 then Int32.ofInt 1 else if v = Int32.ofInt 12 then Int32.ofInt 2 else if v = Int32.ofInt 13 then Int32.ofInt 3
  else if Int32.ofInt 15 < v then (if Int32.ofInt 17 < v then (if v = Int32.ofInt 18 then Int32.ofInt 6 else Int32.ofInt 7) else Int32.ofInt 5) else Int32.ofInt 4
set_option maxRecDepth 100000 in
theorem m_rank (v : Int32) : Ans l 0 X sgX8_rank [.int v] hp (rkF v) := by
  refine Ctr.of okX8_rank rfl (Nat.le_of_ble_eq_true rfl) (run_sound okX8_rank noCut 100 ?_)
  refine And.intro (fun q1 => ⟨rfl, some_int ?_⟩) (fun q1 => And.intro (fun q2 => ⟨rfl, some_int ?_⟩) (fun q2 => And.intro (fun q3 => ⟨rfl, some_int ?_⟩) (fun q3 => And.intro (fun q4 => ⟨rfl, some_int ?_⟩) (fun q4 => br (fun q5 => br (fun q6 => And.intro (fun q7 => ⟨rfl, some_int ?_⟩) (fun q7 => ⟨rfl, some_int ?_⟩)) (fun q6 => ⟨rfl, some_int ?_⟩)) (fun q5 => ⟨rfl, some_int ?_⟩)))))
  · exact (if_pos q1).symm
  · exact ((if_neg q1).trans (if_pos q2)).symm
  · exact ((if_neg q1).trans ((if_neg q2).trans (if_pos q3))).symm
  · exact ((if_neg q1).trans ((if_neg q2).trans ((if_neg q3).trans (if_pos q4)))).symm
  · exact ((if_neg q1).trans ((if_neg q2).trans ((if_neg q3).trans ((if_neg q4).trans ((if_pos q5).trans ((if_pos q6).trans (if_pos q7))))))).symm
  · exact ((if_neg q1).trans ((if_neg q2).trans ((if_neg q3).trans ((if_neg q4).trans ((if_pos q5).trans ((if_pos q6).trans (if_neg q7))))))).symm
  · exact ((if_neg q1).trans ((if_neg q2).trans ((if_neg q3).trans ((if_neg q4).trans ((if_pos q5).trans (if_neg q6)))))).symm
  · exact ((if_neg q1).trans ((if_neg q2).trans ((if_neg q3).trans ((if_neg q4).trans (if_neg q5))))).symm
def sgF (v : Int32) : Int32 :=
  if v = Int32.ofInt 4 then Int32.ofInt 11 else if v = Int32.ofInt 5 then Int32.ofInt 12 else if v = Int32.ofInt 60 then Int32.ofInt 14 else if v = Int32.ofInt 61 then Int32.ofInt 15
  else if v = Int32.ofInt 43 then Int32.ofInt 16 else if v = Int32.ofInt 45 then Int32.ofInt 17 else if v = Int32.ofInt 42 then Int32.ofInt 18 else Int32.ofInt (-1)
set_option maxRecDepth 100000 in
theorem m_signOf : Ans l 0 X sgX8_signOf [.ref 27] (mk S M) (sgF (M.1 23)) := by
  refine Ctr.of okX8_signOf rfl (Nat.le_of_ble_eq_true rfl) (run_sound okX8_signOf noCut 100 ?_)
  refine And.intro (fun q1 => ⟨rfl, some_int ?_⟩) (fun q1 => And.intro (fun q2 => ⟨rfl, some_int ?_⟩) (fun q2 => And.intro (fun q3 => ⟨rfl, some_int ?_⟩) (fun q3 => And.intro (fun q4 => ⟨rfl, some_int ?_⟩) (fun q4 => And.intro (fun q5 => ⟨rfl, some_int ?_⟩) (fun q5 => And.intro (fun q6 => ⟨rfl, some_int ?_⟩) (fun q6 => And.intro (fun q7 => ⟨rfl, some_int ?_⟩) (fun q7 => ⟨rfl, some_int ?_⟩)))))))
  · exact (if_pos q1).symm
  · exact ((if_neg q1).trans (if_pos q2)).symm
  · exact ((if_neg q1).trans ((if_neg q2).trans (if_pos q3))).symm
  · exact ((if_neg q1).trans ((if_neg q2).trans ((if_neg q3).trans (if_pos q4)))).symm
  · exact ((if_neg q1).trans ((if_neg q2).trans ((if_neg q3).trans ((if_neg q4).trans (if_pos q5))))).symm
  · exact ((if_neg q1).trans ((if_neg q2).trans ((if_neg q3).trans ((if_neg q4).trans ((if_neg q5).trans (if_pos q6)))))).symm
  · exact ((if_neg q1).trans ((if_neg q2).trans ((if_neg q3).trans ((if_neg q4).trans ((if_neg q5).trans ((if_neg q6).trans (if_pos q7))))))).symm
  · exact ((if_neg q1).trans ((if_neg q2).trans ((if_neg q3).trans ((if_neg q4).trans ((if_neg q5).trans ((if_neg q6).trans (if_neg q7))))))).symm
set_option maxRecDepth 100000 in
theorem m_puts (hM : MLen M) {tx n : Nat} (htx : M.1 9 = nI tx) (htx6 : tx < 6) (hn : M.1 29 = nI n) (hn2 : n < 200) (v : Int32) : Ctr l 0 X sgX8_puts [.ref 27, .int v] (mk S M) (fun h w => h = mk S (mN (mR M 7 ((M.2.1 7).set (200 * tx + n) v)) 29 (nI (n + 1))) ∧ w = none) := by
  have h7 : (M.2.1 7).length = 1200 := hM.2.2.2.2.1
  have e : Int32.ofInt 200 * M.1 9 + M.1 29 = nI (200 * tx + n) := by
    rw [htx, hn, show Int32.ofInt 200 * nI tx = nI (200 * tx) from nI_mul 200 tx, nI_add]
  refine Ctr.of okX8_puts rfl (Nat.le_of_ble_eq_true rfl) (run_sound okX8_puts noCut 100 (Exists.intro _ (And.intro rfl (And.intro (show vp_in (Int32.ofInt 200 * M.1 9 + M.1 29) (M.2.1 7).length by rw [e, h7]; exact vp_nI (by omega) (by decide)) (And.intro rfl (And.intro trivial ⟨rfl, ?_, rfl⟩))))))
  show mk S (mN (mR M 7 ((M.2.1 7).set (Int32.ofInt 200 * M.1 9 + M.1 29).toNatClampNeg v)) 29 (M.1 29 + 1)) = _
  rw [e, nI_clamp (by omega), hn, nI_1]
set_option maxRecDepth 100000 in
theorem m_holds (hM : MLen M) {n : Nat} (hn : M.1 27 = nI n) (hn2 : n < 200) (v : Int32) : Ctr l 0 X sgX8_holds [.ref 27, .int v] (mk S M) (fun h w => h = mk S (mN (mR M 26 ((M.2.1 26).set n v)) 27 (nI (n + 1))) ∧ w = none) := by
  have h26 : (M.2.1 26).length = 200 := hM.2.2.2.2.2.2.2.2.2.2.2.2.2.1
  refine Ctr.of okX8_holds rfl (Nat.le_of_ble_eq_true rfl) (run_sound okX8_holds noCut 100 (Exists.intro _ (And.intro rfl (And.intro (show vp_in (M.1 27) (M.2.1 26).length by rw [hn, h26]; exact vp_nI hn2 (by decide)) (And.intro rfl (And.intro trivial ⟨rfl, ?_, rfl⟩))))))
  show mk S (mN (mR M 26 ((M.2.1 26).set (M.1 27).toNatClampNeg v)) 27 (M.1 27 + 1)) = _
  rw [hn, nI_clamp (by omega), nI_1]
set_option maxRecDepth 100000 in
theorem m_opensOne (hM : MLen M) {n : Nat} (hn : M.1 27 = nI n) (hn2 : n < 200) (v : Int32) : Ctr l 1 X sgX8_opensOne [.ref 27, .int v] (mk S M) (fun h w => (M.1 28 = Int32.ofInt 5 → h = mk S M ∧ w = some (.int 0)) ∧ (¬ M.1 28 = Int32.ofInt 5 → h = mk S (mN (mN (mR M 26 ((M.2.1 26).set n v)) 27 (nI (n + 1))) 28 (M.1 28 + 1)) ∧ w = some (.int 1))) := by
  refine Ctr.of okX8_opensOne rfl (Nat.le_of_ble_eq_true rfl) (run_sound okX8_opensOne noCut 100 (And.intro (fun q => ⟨rfl, fun _ => ⟨rfl, rfl⟩, fun z => absurd q z⟩) (fun q => And.intro rfl (And.intro trivial (kH (m_holds (M := mN M 28 (M.1 28 + 1)) hM hn hn2 v) (by decide) ⟨rfl, fun z => absurd z q, fun _ => ⟨rfl, rfl⟩⟩)))))
end PARSE
