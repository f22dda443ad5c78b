/-! THE REFERENCE's methods -/
theorem brC {x y : Int64} {A B : Prop} (h1 : x = y → A) (h2 : ¬ x = y → B) : (lg_cmp x y = 0 → A) ∧ (¬ lg_cmp x y = 0 → B) := ⟨fun h => h1 (lg_cmp0.mp h), fun h => h2 (fun z => h (lg_cmp0.mpr z))⟩
abbrev mk (S : CS) (M : MS) : AH := encC S ++ encM M
abbrev mkR (S : CS) (M : MS) (v : Int32) : AH → Option Value → Prop := fun h w => h = mk S M ∧ w = some (.int v)
abbrev mkL (S : CS) (M : MS) (v : Int64) : AH → Option Value → Prop := fun h w => h = mk S M ∧ w = some (.long v)
/-- the reference's rows are as long as they were made -/
def MLen (M : MS) : Prop := (M.2.1 1).length = 5 ∧ (M.2.1 2).length = 5 ∧ (M.2.1 4).length = 36 ∧ (M.2.1 5).length = 160 ∧ (M.2.1 7).length = 1200 ∧ (M.2.1 8).length = 24 ∧ (M.2.1 15).length = 10 ∧ (M.2.1 16).length = 36 ∧ (M.2.1 17).length = 4 ∧ (M.2.1 18).length = 4 ∧ (M.2.1 19).length = 160 ∧ (M.2.1 20).length = 28 ∧ (M.2.1 25).length = 96 ∧ (M.2.1 26).length = 200 ∧ (M.2.1 30).length = 200 ∧ (M.2.1 31).length = 6 ∧ M.2.2.1.length = 60 ∧ M.2.2.2.length = 12
section MODEL
variable {l : Launch} {X : List (List Int32)} {S : CS} {M : MS} {hp : AH}
set_option maxRecDepth 100000 in
theorem m_in (v lo hi : Int32) : Ans l 0 X sgX8_in [.int v, .int lo, .int hi] hp (bI (lo ≤ v ∧ v ≤ hi)) := by
  refine Ctr.of okX8_in rfl (Nat.le_of_ble_eq_true rfl) (run_sound okX8_in noCut 100 ?_)
  refine br (fun h1 => ⟨rfl, rfl, some_int (bIe0 (fun z => absurd h1 (Int32.not_lt.mpr z.1)))⟩) (fun h1 => br (fun h2 => ⟨rfl, rfl, some_int (bIe0 (fun z => absurd h2 (Int32.not_lt.mpr z.2)))⟩) (fun h2 => ⟨rfl, rfl, some_int (bIe1 ⟨Int32.not_lt.mp h1, Int32.not_lt.mp h2⟩)⟩))
def withinF (v lo hi : Int32) : Int32 := if v < lo then lo else if hi < v then hi else v
set_option maxRecDepth 100000 in
theorem m_within (v lo hi : Int32) : Ans l 0 X sgX8_within [.int v, .int lo, .int hi] hp (withinF v lo hi) := by
  refine Ctr.of okX8_within rfl (Nat.le_of_ble_eq_true rfl) (run_sound okX8_within noCut 100 ?_)
  refine br (fun h1 => br (fun h2 => ⟨rfl, some_int ?_⟩) (fun h2 => ⟨rfl, some_int ?_⟩)) (fun h1 => ⟨rfl, some_int ?_⟩)
  · exact ((if_neg (Int32.not_lt.mpr h1)).trans (if_neg (Int32.not_lt.mpr h2))).symm
  · exact ((if_neg (Int32.not_lt.mpr h1)).trans (if_pos (Int32.not_le.mp h2))).symm
  · exact (if_pos (Int32.not_le.mp h1)).symm
set_option maxRecDepth 100000 in
theorem m_has (s : Int64) (w : Int32) : Ans l 0 X sgX8_has [.long s, .int w] hp (bI ((s >>> (w.toInt64 &&& 63)) &&& 1 = 1)) := by
  refine Ctr.of okX8_has rfl (Nat.le_of_ble_eq_true rfl) (run_sound okX8_has noCut 100 ?_)
  exact brC (fun h => ⟨rfl, rfl, some_int (bI_t h).symm⟩) (fun h => ⟨rfl, rfl, some_int (bI_f h).symm⟩)
/-- how many bits -/
def cntF (s : Int64) : Nat → Int32
  | 0 => 0
  | w + 1 => cntF s w + bI ((s >>> ((nI w).toInt64 &&& 63)) &&& 1 = 1)
set_option maxRecDepth 100000 in
theorem m_bitsOf (s : Int64) : Ans l 1 X sgX8_bitsOf [.long s] hp (cntF s 32) := by
  refine Ctr.of okX8_bitsOf rfl (Nat.le_of_ble_eq_true rfl) (run_sound okX8_bitsOf (fun i => Nat.beq i 4) 100 ?_)
  have key : ∀ j, j ≤ 32 → WP l (rmD 1 0 0) X sgX8_bitsOf kX8_bitsOf (fun h w => h = hp ∧ w = some (.int (cntF s 32))) 4 [some (.long s), none, some (.int (cntF s j)), some (.int (nI j))] [] hp 0 0 := by
    refine down ?_ (fun j hj ih => ?_)
    · exact run_sound okX8_bitsOf (fun i => Nat.beq i 4) 100 (brT (Int32.le_refl _) ⟨rfl, rfl⟩)
    · refine run_sound okX8_bitsOf (fun i => Nat.beq i 4) 100 (brF (ge_no (n := 32) rfl hj (by decide)) (kH (m_has _ _) (by decide) (brB' (fun h => ?_) (fun h => ?_))))
      · rw [show cntF s (j + 1) = cntF s j + 0 by rw [cntF, bI_f h], ← nI_1 j] at ih
        exact ih
      · rw [show cntF s (j + 1) = cntF s j + 1 by rw [cntF, bI_t h], ← nI_1 j] at ih
        exact ih
  exact key 0 (Nat.zero_le _)
set_option maxRecDepth 100000 in
theorem m_isSpeaker (v : Int32) : Ans l 1 X sgX8_isSpeaker [.ref 27, .int v] (mk S M) (bI (0 ≤ v ∧ v ≤ M.1 0 - 1)) := by
  refine Ctr.of okX8_isSpeaker rfl (Nat.le_of_ble_eq_true rfl) (run_sound okX8_isSpeaker noCut 100 ?_)
  exact kH (m_in _ _ _) (by decide) ⟨nar_bI, rfl, rfl⟩
set_option maxRecDepth 100000 in
theorem m_isOfTexts (v : Int32) : Ans l 1 X sgX8_isOfTexts [.ref 27, .int v] (mk S M) (bI (0 ≤ v ∧ v ≤ M.1 9 - 1)) := by
  refine Ctr.of okX8_isOfTexts rfl (Nat.le_of_ble_eq_true rfl) (run_sound okX8_isOfTexts noCut 100 ?_)
  exact kH (m_in _ _ _) (by decide) ⟨nar_bI, rfl, rfl⟩
set_option maxRecDepth 100000 in
theorem m_isWorld (v : Int32) : Ans l 1 X sgX8_isWorld [.int v] hp (bI (0 ≤ v ∧ v ≤ 31)) := by
  refine Ctr.of okX8_isWorld rfl (Nat.le_of_ble_eq_true rfl) (run_sound okX8_isWorld noCut 100 ?_)
  exact kH (m_in _ _ _) (by decide) ⟨nar_bI, rfl, rfl⟩
/-- a sign between two -/
def twoF (sign a b : Int32) : Int32 :=
  if sign = 11 then bI (¬ a = 0 ∨ ¬ b = 0) else if sign = 12 then bI (¬ a = 0 ∧ ¬ b = 0) else if sign = 14 then bI (a < b) else if sign = 15 then bI (a = b)
  else if sign = 16 then a + b else if sign = 17 then a - b else a * b
set_option maxRecDepth 100000 in
theorem m_two (sign a b : Int32) : Ans l 0 X sgX8_two [.int sign, .int a, .int b] hp (twoF sign a b) := by
  refine Ctr.of okX8_two rfl (Nat.le_of_ble_eq_true rfl) (run_sound okX8_two noCut 100 ?_)
  refine And.intro (fun h => ⟨rfl, some_int ?_⟩) (And.intro (fun h => ?_) (And.intro (fun h => ?_) (And.intro (fun h => ⟨rfl, some_int ?_⟩) (And.intro (fun h => ?_) (And.intro (fun h => ?_) (And.intro (fun h => ⟨rfl, some_int ?_⟩) (And.intro (fun h => ⟨rfl, some_int ?_⟩) trivial)))))))
  · have n1 : ¬ sign = 11 := fun z => by subst z; revert h; decide
    have n2 : ¬ sign = 12 := fun z => by subst z; revert h; decide
    have n4 : ¬ sign = 14 := fun z => by subst z; revert h; decide
    have n5 : ¬ sign = 15 := fun z => by subst z; revert h; decide
    have n6 : ¬ sign = 16 := fun z => by subst z; revert h; decide
    have n7 : ¬ sign = 17 := fun z => by subst z; revert h; decide
    simp only [twoF, if_neg n1, if_neg n2, if_neg n4, if_neg n5, if_neg n6, if_neg n7]
  · subst h
    refine br (fun h1 => br (fun h2 => ⟨rfl, some_int ?_⟩) (fun h2 => ⟨rfl, some_int ?_⟩)) (fun h1 => ⟨rfl, some_int ?_⟩)
    · exact (bI_f (p := ¬ a = 0 ∨ ¬ b = 0) (fun z => z.elim (fun q => q h1) (fun q => q h2))).symm
    · exact (bI_t (p := ¬ a = 0 ∨ ¬ b = 0) (Or.inr h2)).symm
    · exact (bI_t (p := ¬ a = 0 ∨ ¬ b = 0) (Or.inl h1)).symm
  · subst h
    refine br (fun h1 => ⟨rfl, some_int ?_⟩) (fun h1 => br (fun h2 => ⟨rfl, some_int ?_⟩) (fun h2 => ⟨rfl, some_int ?_⟩))
    · exact (bI_f (p := ¬ a = 0 ∧ ¬ b = 0) (fun z => z.1 h1)).symm
    · exact (bI_f (p := ¬ a = 0 ∧ ¬ b = 0) (fun z => z.2 h2)).symm
    · exact (bI_t (p := ¬ a = 0 ∧ ¬ b = 0) ⟨h1, h2⟩).symm
  · subst h; rfl
  · subst h
    refine br (fun h1 => ⟨rfl, some_int ?_⟩) (fun h1 => ⟨rfl, some_int ?_⟩)
    · exact (bI_f (p := a < b) (Int32.not_lt.mpr h1)).symm
    · exact (bI_t (p := a < b) (Int32.not_le.mp h1)).symm
  · subst h
    refine br (fun h1 => ⟨rfl, some_int ?_⟩) (fun h1 => ⟨rfl, some_int ?_⟩)
    · exact (bI_t (p := a = b) h1).symm
    · exact (bI_f (p := a = b) h1).symm
  · subst h; rfl
  · subst h; rfl
end MODEL
