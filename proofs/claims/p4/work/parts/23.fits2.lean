theorem ge_end {s : Int32} {n : Nat} (hs : s = nI n) : s ≤ nI n := by rw [hs]; exact Int32.le_refl _
theorem ge_no {s : Int32} {n j : Nat} (hs : s = nI n) (h : j < n) (hn : n < 2 ^ 31) : ¬ s ≤ nI j := by rw [hs]; exact nI_ge h hn
/-- what holds of the class's numbers: texts, speakers, sayings -/
def CInv (S : CS) (nt ns nk : Nat) : Prop := CLen S ∧ S.1 93 = nI nt ∧ (1 ≤ nt ∧ nt ≤ 6) ∧ S.1 133 = nI ns ∧ ns ≤ 5 ∧ S.1 134 = nI nk ∧ nk ≤ 12
abbrev kR (S : CS) (T : AH) (v : Int32) : AH → Option Value → Prop := fun h w => h = encC S ++ T ∧ w = some (.int v)
abbrev kRL (S : CS) (T : AH) (v : Int64) : AH → Option Value → Prop := fun h w => h = encC S ++ T ∧ w = some (.long v)
section FITS2
variable {l : Launch} {X : List (List Int32)} {S : CS} {T : AH} {nt ns nk : Nat}
set_option maxRecDepth 100000 in
theorem c_fitting (hI : CInv S nt ns nk) : Ans l 6 X sgX7_fitting [.ref 0] (encC S ++ T) (fitF S nk) := by
  obtain ⟨hL, -, -, -, -, hk, hk12⟩ := hI
  refine Ctr.of okX7_fitting rfl (Nat.le_of_ble_eq_true rfl) (run_sound okX7_fitting noCut 100 ?_)
  have hc : Ans l 5 X sgX7_fittingFirst [.ref 0, .int (S.1 134)] (encC S ++ T) (fitF S nk) := by rw [hk]; exact c_fittingFirst hL hk12
  exact kH hc (by decide) ⟨rfl, rfl⟩
set_option maxRecDepth 100000 in
theorem c_worlds (hI : CInv S nt ns nk) : AnsL l 7 X sgX7_worlds [.ref 0] (encC S ++ T) (bitsF (fitF S nk)) := by
  refine Ctr.of okX7_worlds rfl (Nat.le_of_ble_eq_true rfl) (run_sound okX7_worlds noCut 100 ?_)
  exact kH (c_fitting hI) (by decide) (kH (c_bits _) (by decide) ⟨rfl, rfl, rfl⟩)
def cannotF (S : CS) : Nat → Nat → Int32
  | 0, _ => -1
  | m + 1, j => if fitF S (j + 1) = 0 then nI j else cannotF S m (j + 1)
set_option maxRecDepth 100000 in
theorem c_cannot (hI : CInv S nt ns nk) : Ans l 5 X sgX7_cannot [.ref 0] (encC S ++ T) (cannotF S nk 0) := by
  obtain ⟨hL, -, -, -, -, hk, hk12⟩ := hI
  refine Ctr.of okX7_cannot rfl (Nat.le_of_ble_eq_true rfl) (run_sound okX7_cannot (fun i => Nat.beq i 5) 100 ?_)
  refine kH (c_lawful hL) (by decide) ?_
  have key : ∀ j, j ≤ nk → cannotF S nk 0 = cannotF S (nk - j) j → WP l (rmD 5 0 0) X sgX7_cannot kX7_cannot (kR S T (cannotF S nk 0)) 5 [some (.ref 0), some (.int (fitF S j)), some (.int (nI j))] [] (encC S ++ T) 0 0 := by
    refine down (fun h => ?_) (fun j hj ih h => ?_)
    · rw [h, Nat.sub_self]
      exact run_sound okX7_cannot (fun i => Nat.beq i 5) 100 (brT (ge_end hk) ⟨rfl, rfl⟩)
    · rw [show nk - j = (nk - (j + 1)) + 1 by omega] at h
      refine run_sound okX7_cannot (fun i => Nat.beq i 5) 100 (brF (ge_no hk hj (by omega)) (kH (c_sayable hL _) (by decide) (br (fun h1 => ⟨rfl, some_int ?_⟩) (fun h1 => ?_))))
      · exact (h.trans (if_pos (c := fitF S (j + 1) = 0) h1)).symm
      · have ih := ih (h.trans (if_neg (c := fitF S (j + 1) = 0) h1))
        rw [show fitF S (j + 1) = fitF S j &&& sayF S (nI j) from rfl, ← nI_1 j] at ih
        exact ih
  exact key 0 (Nat.zero_le _) rfl
/-- without one -/
def woF (S : CS) (left : Int32) : Nat → Int32
  | 0 => lawF S
  | j + 1 => if nI j = left then woF S left j else woF S left j &&& sayF S (nI j)
set_option maxRecDepth 100000 in
theorem c_fittingWithout (hI : CInv S nt ns nk) (left : Int32) : Ans l 5 X sgX7_fittingWithout [.ref 0, .int left] (encC S ++ T) (woF S left nk) := by
  obtain ⟨hL, -, -, -, -, hk, hk12⟩ := hI
  refine Ctr.of okX7_fittingWithout rfl (Nat.le_of_ble_eq_true rfl) (run_sound okX7_fittingWithout (fun i => Nat.beq i 5) 100 ?_)
  refine kH (c_lawful hL) (by decide) ?_
  have key : ∀ j, j ≤ nk → WP l (rmD 5 0 0) X sgX7_fittingWithout kX7_fittingWithout (kR S T (woF S left nk)) 5 [some (.ref 0), some (.int left), some (.int (woF S left j)), some (.int (nI j))] [] (encC S ++ T) 0 0 := by
    refine down ?_ (fun j hj ih => ?_)
    · exact run_sound okX7_fittingWithout (fun i => Nat.beq i 5) 100 (brT (ge_end hk) ⟨rfl, rfl⟩)
    · refine run_sound okX7_fittingWithout (fun i => Nat.beq i 5) 100 (brF (ge_no hk hj (by omega)) (br (fun h1 => ?_) (fun h1 => kH (c_sayable hL _) (by decide) ?_)))
      · rw [show woF S left (j + 1) = woF S left j from if_pos h1, ← nI_1 j] at ih
        exact ih
      · rw [show woF S left (j + 1) = woF S left j &&& sayF S (nI j) from if_neg h1, ← nI_1 j] at ih
        exact ih
  exact key 0 (Nat.zero_le _)
def liesF (S : CS) (nk : Nat) : Nat → Int32
  | 0 => 0
  | k + 1 => if woF S (nI k) nk = 0 then liesF S nk k else liesF S nk k ||| (1 <<< (nI k &&& 31))
set_option maxRecDepth 100000 in
theorem c_lies (hI : CInv S nt ns nk) : Ans l 7 X sgX7_lies [.ref 0] (encC S ++ T) (if fitF S nk = 0 then liesF S nk nk else 0) := by
  have hI0 := hI
  obtain ⟨hL, -, -, -, -, hk, hk12⟩ := hI
  refine Ctr.of okX7_lies rfl (Nat.le_of_ble_eq_true rfl) (run_sound okX7_lies (fun i => Nat.beq i 9) 100 ?_)
  refine kH (c_fitting hI0) (by decide) (br (fun h0 => ?_) (fun h0 => ⟨rfl, some_int (if_neg (c := fitF S nk = 0) h0).symm⟩))
  rw [if_pos (c := fitF S nk = 0) h0]
  have key : ∀ j, j ≤ nk → WP l (rmD 7 0 0) X sgX7_lies kX7_lies (kR S T (liesF S nk nk)) 9 [some (.ref 0), some (.int (liesF S nk j)), some (.int (nI j))] [] (encC S ++ T) 0 0 := by
    refine down ?_ (fun j hj ih => ?_)
    · exact run_sound okX7_lies (fun i => Nat.beq i 9) 100 (brT (ge_end hk) ⟨rfl, rfl⟩)
    · refine run_sound okX7_lies (fun i => Nat.beq i 9) 100 (brF (ge_no hk hj (by omega)) (kH (c_fittingWithout hI0 _) (by decide) (br (fun h1 => ?_) (fun h1 => ?_))))
      · rw [show liesF S nk (j + 1) = liesF S nk j from if_pos h1, ← nI_1 j] at ih
        exact ih
      · rw [show liesF S nk (j + 1) = liesF S nk j ||| (1 <<< (nI j &&& 31)) from if_neg h1, ← nI_1 j] at ih
        exact ih
  exact key 0 (Nat.zero_le _)
/-- the sayings that a world does not fit -/
def misF (S : CS) (w : Int32) : Nat → Int32
  | 0 => 0
  | k + 1 => if bitF (sayF S (nI k)) w = 0 then misF S w k ||| (1 <<< (nI k &&& 31)) else misF S w k
set_option maxRecDepth 100000 in
theorem c_misfits (hI : CInv S nt ns nk) (w : Int32) : Ans l 5 X sgX7_misfits [.ref 0, .int w] (encC S ++ T) (misF S w nk) := by
  obtain ⟨hL, -, -, -, -, hk, hk12⟩ := hI
  refine Ctr.of okX7_misfits rfl (Nat.le_of_ble_eq_true rfl) (run_sound okX7_misfits (fun i => Nat.beq i 4) 100 ?_)
  have key : ∀ j, j ≤ nk → WP l (rmD 5 0 0) X sgX7_misfits kX7_misfits (kR S T (misF S w nk)) 4 [some (.ref 0), some (.int w), some (.int (misF S w j)), some (.int (nI j))] [] (encC S ++ T) 0 0 := by
    refine down ?_ (fun j hj ih => ?_)
    · exact run_sound okX7_misfits (fun i => Nat.beq i 4) 100 (brT (ge_end hk) ⟨rfl, rfl⟩)
    · refine run_sound okX7_misfits (fun i => Nat.beq i 4) 100 (brF (ge_no hk hj (by omega)) (kH (c_sayable hL _) (by decide) (kH (c_bit _ _) (by decide) (br (fun h1 => ?_) (fun h1 => ?_)))))
      · rw [show misF S w (j + 1) = misF S w j ||| (1 <<< (nI j &&& 31)) from if_pos h1, ← nI_1 j] at ih
        exact ih
      · rw [show misF S w (j + 1) = misF S w j from if_neg h1, ← nI_1 j] at ih
        exact ih
  exact key 0 (Nat.zero_le _)
def leastF (S : CS) (nk : Nat) : Nat → Int32
  | 0 => 4095
  | w + 1 => if bitF (lawF S) (nI w) = 1 then fewerF (misF S (nI w) nk) (leastF S nk w) else leastF S nk w
def leastA (S : CS) (nk : Nat) (what : Int32) : Int32 := if ¬ (0 ≤ what ∧ what < 2) then -2 else if lawF S = 0 then -1 else if what = 0 then bcF (leastF S nk 32) else leastF S nk 32
set_option maxRecDepth 100000 in
theorem c_least (hI : CInv S nt ns nk) (what : Int32) : Ans l 6 X sgX7_least [.ref 0, .int what] (encC S ++ T) (leastA S nk what) := by
  have hI0 := hI
  obtain ⟨hL, -, -, -, -, hk, hk12⟩ := hI
  refine Ctr.of okX7_least rfl (Nat.le_of_ble_eq_true rfl) (run_sound okX7_least (fun i => Nat.beq i 17) 100 ?_)
  refine kH (c_isBelow _ _) (by decide) (brB' (fun h => ⟨rfl, some_int (if_pos h).symm⟩) (fun h => kH (c_lawful hL) (by decide) (br (fun h1 => ⟨rfl, some_int ((if_neg (not_not_intro h)).trans (if_pos (c := lawF S = 0) h1)).symm⟩) (fun h1 => ?_))))
  have hv : leastA S nk what = if what = 0 then bcF (leastF S nk 32) else leastF S nk 32 := (if_neg (not_not_intro h)).trans (if_neg (c := lawF S = 0) h1)
  rw [hv]
  have key : ∀ j, j ≤ 32 → WP l (rmD 6 0 0) X sgX7_least kX7_least (kR S T (if what = 0 then bcF (leastF S nk 32) else leastF S nk 32)) 17 [some (.ref 0), some (.int what), some (.int (lawF S)), some (.int (leastF S nk j)), some (.int (nI j))] [] (encC S ++ T) 0 0 := by
    refine down ?_ (fun j hj ih => ?_)
    · refine run_sound okX7_least (fun i => Nat.beq i 17) 100 (brT (Int32.le_refl _) (br (fun h2 => kH (c_bitCount _) (by decide) ⟨rfl, some_int (if_pos h2).symm⟩) (fun h2 => ⟨rfl, some_int (if_neg h2).symm⟩)))
    · refine run_sound okX7_least (fun i => Nat.beq i 17) 100 (brF (ge_no (n := 32) rfl hj (by decide)) (kH (c_bit _ _) (by decide) (br (fun h2 => kH (c_misfits hI0 _) (by decide) (kH (c_fewer _ _) (by decide) ?_)) (fun h2 => ?_))))
      · rw [show leastF S nk (j + 1) = fewerF (misF S (nI j) nk) (leastF S nk j) from if_pos h2, ← nI_1 j] at ih
        exact ih
      · rw [show leastF S nk (j + 1) = leastF S nk j from if_neg h2, ← nI_1 j] at ih
        exact ih
  exact key 0 (Nat.zero_le _)
end FITS2
