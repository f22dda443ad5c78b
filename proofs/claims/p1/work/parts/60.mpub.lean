/-! THE REFERENCE's public methods -/
section MPUB
variable {l : Launch} {X : List (List Int32)} {S : CS} {M : MS} {hp : AH}
set_option maxRecDepth 100000 in
theorem m_isByte (v : Int32) : Ans l 1 X sgX8_isByte [.int v] hp (bI (Int32.ofInt 0 ≤ v ∧ v ≤ Int32.ofInt 255)) := by
  refine Ctr.of okX8_isByte rfl (Nat.le_of_ble_eq_true rfl) (run_sound okX8_isByte noCut 100 ?_)
  exact kH (m_in _ _ _) (by decide) ⟨nar_bI, rfl, rfl⟩
def m_cnt (M : MS) (v : Int32) : Int32 := if v = 0 then M.1 0 else if v = 1 then M.1 3 else if v = 2 then M.1 9 else if v = 3 then M.1 10 else if v = 4 then M.1 6 else Int32.ofInt (-2)
set_option maxRecDepth 100000 in
theorem m_count (v : Int32) : Ans l 0 X sgX8_count [.ref 27, .int v] (mk S M) (m_cnt M v) := by
  refine Ctr.of okX8_count rfl (Nat.le_of_ble_eq_true rfl) (run_sound okX8_count noCut 100 ?_)
  refine And.intro (fun h => ⟨rfl, some_int ?_⟩) (And.intro (fun h => ?_) (And.intro (fun h => ?_) (And.intro (fun h => ?_) (And.intro (fun h => ?_) (And.intro (fun h => ?_) trivial)))))
  · have n0 : ¬ v = 0 := fun z => by subst z; revert h; decide
    have n1 : ¬ v = 1 := fun z => by subst z; revert h; decide
    have n2 : ¬ v = 2 := fun z => by subst z; revert h; decide
    have n3 : ¬ v = 3 := fun z => by subst z; revert h; decide
    have n4 : ¬ v = 4 := fun z => by subst z; revert h; decide
    simp only [m_cnt, if_neg n0, if_neg n1, if_neg n2, if_neg n3, if_neg n4]
  · subst h; exact ⟨rfl, rfl⟩
  · subst h; exact ⟨rfl, rfl⟩
  · subst h; exact ⟨rfl, rfl⟩
  · subst h; exact ⟨rfl, rfl⟩
  · subst h; exact ⟨rfl, rfl⟩
end MPUB
