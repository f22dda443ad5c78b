/-! THE REFERENCE's public methods -/
section MPUB
variable {l : Launch} {X : List (List Int32)} {S : CS} {M : MS} {hp : AH}
set_option maxRecDepth 100000 in
theorem m_isByte (v : Int32) : Ans l 1 X sgX8_isByte [.int v] hp (bI (Int32.ofInt 0 ≤ v ∧ v ≤ Int32.ofInt 255)) := by
  refine Ctr.of okX8_isByte rfl (Nat.le_of_ble_eq_true rfl) (run_sound okX8_isByte noCut 100 ?_)
  exact kH (m_in _ _ _) (by decide) ⟨nar_bI, rfl, rfl⟩
def m_cnt (M : MS) (v : Int32) : Int32 := if v = 0 then M.1 0 else if v = 1 then M.1 3 else if v = 2 then M.1 9 else if v = 3 then M.1 10 else if v = 4 then M.1 6 else Int32.ofInt (-2)
set_option maxRecDepth 100000 in
theorem m_count (v : Int32) : Ans l 0 X sgX8_count [.ref 27, .int v] (mk S M) (m_cnt M v) := by
  refine Ctr.of okX8_count rfl (Nat.le_of_ble_eq_true rfl) (run_sound okX8_count noCut 100 ?_)
  refine And.intro (fun h => ⟨rfl, some_int ?_⟩) (And.intro (fun h => ?_) (And.intro (fun h => ?_) (And.intro (fun h => ?_) (And.intro (fun h => ?_) (And.intro (fun h => ?_) trivial)))))
  · have n0 : ¬ v = 0 := fun z => by subst z; revert h; decide
    have n1 : ¬ v = 1 := fun z => by subst z; revert h; decide
    have n2 : ¬ v = 2 := fun z => by subst z; revert h; decide
    have n3 : ¬ v = 3 := fun z => by subst z; revert h; decide
    have n4 : ¬ v = 4 := fun z => by subst z; revert h; decide
    simp only [m_cnt, if_neg n0, if_neg n1, if_neg n2, if_neg n3, if_neg n4]
  · subst h; exact ⟨rfl, rfl⟩
  · subst h; exact ⟨rfl, rfl⟩
  · subst h; exact ⟨rfl, rfl⟩
  · subst h; exact ⟨rfl, rfl⟩
  · subst h; exact ⟨rfl, rfl⟩
abbrev inP (v lo hi : Int32) : Prop := lo ≤ v ∧ v ≤ hi
abbrev frP (M : MS) (v : Int32) : Prop := inP v (Int32.ofInt 0) (M.1 9 - Int32.ofInt 1)
set_option maxRecDepth 100000 in
theorem m_force (v : Int32) : Ctr l 1 X sgX8_force [.ref 27, .int v] (mk S M) (fun h w => h = mk S (if frP M v then mN M 10 v else M) ∧ w = some (.int (if frP M v then M.1 10 else Int32.ofInt (-2)))) := by
  refine Ctr.of okX8_force rfl (Nat.le_of_ble_eq_true rfl) (run_sound okX8_force noCut 100 ?_)
  refine kH (m_in _ _ _) (by decide) (brB' (fun q => ⟨?_, some_int ?_⟩) (fun q => And.intro trivial ⟨?_, some_int ?_⟩))
  · rw [if_neg (show ¬ frP M v from q)]
  · rw [if_neg (show ¬ frP M v from q)]
  · rw [if_pos (show frP M v from q)]; rfl
  · rw [if_pos (show frP M v from q)]
set_option maxRecDepth 100000 in
theorem m_isSo (k m : Int32) : Ans l 1 X sgX8_isSo [.int k, .int m] hp (bI (inP k (Int32.ofInt 0) (Int32.ofInt 5) ∧ inP m (Int32.ofInt 0) (Int32.ofInt 9))) := by
  refine Ctr.of okX8_isSo rfl (Nat.le_of_ble_eq_true rfl) (run_sound okX8_isSo noCut 100 ?_)
  exact kH (m_in _ _ _) (by decide) (brB' (fun q => ⟨rfl, rfl, some_int (bIe0 (fun z => q z.1))⟩) (fun q => kH (m_in _ _ _) (by decide) (brB' (fun q2 => ⟨rfl, rfl, some_int (bIe0 (fun z => q2 z.2))⟩) (fun q2 => ⟨rfl, rfl, some_int (bIe1 ⟨q, q2⟩)⟩))))
set_option maxRecDepth 100000 in
theorem m_unsay : Ctr l 0 X sgX8_unsay [.ref 27] (mk S M) (fun h w => h = mk S (if M.1 3 = Int32.ofInt 0 then M else mN M 3 (M.1 3 - Int32.ofInt 1)) ∧ w = some (.int (if M.1 3 = Int32.ofInt 0 then Int32.ofInt (-3) else M.1 3 - Int32.ofInt 1))) := by
  refine Ctr.of okX8_unsay rfl (Nat.le_of_ble_eq_true rfl) (run_sound okX8_unsay noCut 100 (And.intro (fun q => ⟨?_, some_int ?_⟩) (fun q => And.intro rfl (And.intro trivial ⟨?_, some_int ?_⟩))))
  · rw [if_pos (show M.1 3 = Int32.ofInt 0 from q)]
  · rw [if_pos (show M.1 3 = Int32.ofInt 0 from q)]
  · rw [if_neg (show ¬ M.1 3 = Int32.ofInt 0 from q)]; rfl
  · rw [if_neg (show ¬ M.1 3 = Int32.ofInt 0 from q)]
end MPUB
