/-! THE REFERENCE's public methods -/
section MPUB
variable {l : Launch} {X : List (List Int32)} {S : CS} {M : MS} {hp : AH}
set_option maxRecDepth 100000 in
theorem m_isByte (v : Int32) : Ans l 1 X sgX8_isByte [.int v] hp (bI (Int32.ofInt 0 ≤ v ∧ v ≤ Int32.ofInt 255)) := by
  refine Ctr.of okX8_isByte rfl (Nat.le_of_ble_eq_true rfl) (run_sound okX8_isByte noCut 100 ?_)
  exact kH (m_in _ _ _) (by decide) ⟨nar_bI, rfl, rfl⟩
end MPUB
