section QUEST2
variable {l : Launch} {X : List (List Int32)} {S : CS} {T : AH} {nt ns nk : Nat}
abbrev kS (S' : CS) (T : AH) (v : Int32) : AH → Option Value → Prop := fun h w => h = encC S' ++ T ∧ w = some (.int v)
def askS (S : CS) (nt ns nk : Nat) : BQ := fbO S (fitF S nk) (nI nk) nt ns
def askA (S : CS) (nt ns nk : Nat) (what : Int32) : Int32 := if ¬ 0 < ns then -1 else if what = 1 then (askS S nt ns nk).2.2.1 else if what = 2 then (askS S nt ns nk).2.2.2 else 10 * (askS S nt ns nk).1 + (askS S nt ns nk).2.1
set_option maxRecDepth 100000 in
theorem c_ask (hI : CInv S nt ns nk) (what : Int32) : Ctr l 7 X sgX7_ask [.ref 0, .int what] (encC S ++ T) (fun h w => (∃ B, h = encC (setB S B) ++ T) ∧ w = some (.int (if ¬ (0 ≤ what ∧ what < 3) then -2 else askA S nt ns nk what))) := by
  have hk : S.1 134 = nI nk := hI.2.2.2.2.2.1
  refine Ctr.of okX7_ask rfl (Nat.le_of_ble_eq_true rfl) (run_sound okX7_ask noCut 100 ?_)
  have hc : Ctr l 4 X sgX7_findBest [.ref 0, .int (fitF S nk), .int (S.1 134)] (encC S ++ T) (fun h w => h = encC (setB S (askS S nt ns nk)) ++ T ∧ w = some (.int (bI (0 < ns)))) := by rw [hk]; exact c_findBest hI _ _
  refine kH (c_isBelow _ _) (by decide) (brB' (fun h => ⟨⟨getB S, rfl⟩, some_int (if_pos h).symm⟩) (fun h => kH (c_fitting hI) (by decide) ?_))
  have e0 : ∀ {y : Int32}, y = askA S nt ns nk what → y = if ¬ (0 ≤ what ∧ what < 3) then -2 else askA S nt ns nk what := fun q => q.trans (if_neg (not_not_intro h)).symm
  refine kH hc (by decide) (brB' (fun h1 => ⟨⟨_, rfl⟩, some_int (e0 (if_pos h1).symm)⟩) (fun h1 => br (fun h2 => ⟨⟨_, rfl⟩, some_int (e0 ?_)⟩) (fun h2 => br (fun h3 => ⟨⟨_, rfl⟩, some_int (e0 ?_)⟩) (fun h3 => ⟨⟨_, rfl⟩, some_int (e0 ?_)⟩))))
  · exact ((if_neg (c := ¬ 0 < ns) (not_not_intro h1)).trans (if_pos (c := what = 1) h2)).symm
  · exact ((if_neg (c := ¬ 0 < ns) (not_not_intro h1)).trans ((if_neg (c := what = 1) h2).trans (if_pos (c := what = 2) h3))).symm
  · exact ((if_neg (c := ¬ 0 < ns) (not_not_intro h1)).trans ((if_neg (c := what = 1) h2).trans (if_neg (c := what = 2) h3))).symm
/-- the worst behind a question: over both ways of its being said -/
def wbB (S : CS) (nt ns nk : Nat) (fit s t : Int32) : Nat → BQ × Int32
  | 0 => (getB S, 0)
  | j + 1 => let B := fbO (setB S (wbB S nt ns nk fit s t j).1) (fit &&& nextF S s t (nI j) (nI nk)) (nI nk + 1) nt ns
    (B, if 0 < ns then maxF (wbB S nt ns nk fit s t j).2 B.2.2.1 else (wbB S nt ns nk fit s t j).2)
set_option maxRecDepth 100000 in
theorem c_worstBehind (hI : CInv S nt ns nk) (fit s t : Int32) : Ctr l 5 X sgX7_worstBehind [.ref 0, .int fit, .int s, .int t] (encC S ++ T) (fun h w => h = encC (setB S (wbB S nt ns nk fit s t 2).1) ++ T ∧ w = some (.int (wbB S nt ns nk fit s t 2).2)) := by
  have hL := hI.1
  have hk : S.1 134 = nI nk := hI.2.2.2.2.2.1
  refine Ctr.of okX7_worstBehind rfl (Nat.le_of_ble_eq_true rfl) (run_sound okX7_worstBehind (fun i => Nat.beq i 8) 100 ?_)
  have key : ∀ j, j ≤ 2 → ∀ x7, WP l (rmD 5 0 0) X sgX7_worstBehind kX7_worstBehind (fun h w => h = encC (setB S (wbB S nt ns nk fit s t 2).1) ++ T ∧ w = some (.int (wbB S nt ns nk fit s t 2).2)) 8 [some (.ref 0), some (.int fit), some (.int s), some (.int t), some (.int (nI nk)), some (.int (wbB S nt ns nk fit s t j).2), some (.int (nI j)), x7] [] (encC (setB S (wbB S nt ns nk fit s t j).1) ++ T) 0 0 := by
    refine down (fun x7 => ?_) (fun j hj ih x7 => ?_)
    · exact run_sound okX7_worstBehind (fun i => Nat.beq i 8) 100 (brT (Int32.le_refl _) ⟨rfl, rfl⟩)
    · refine run_sound okX7_worstBehind (fun i => Nat.beq i 8) 100 (brF (ge_no (n := 2) rfl hj (by decide)) ?_)
      refine kH (c_sayableNext (S := setB S (wbB S nt ns nk fit s t j).1) hL _ _ _ _) (by decide) (kH (c_findBest (hI.setB _) _ _) (by decide) ?_)
      refine brB' (fun h1 => ?_) (fun h1 => And.intro (by decide) ?_)
      · have ih := ih (some (.int (bI (0 < ns))))
        have e : (wbB S nt ns nk fit s t (j + 1)).2 = (wbB S nt ns nk fit s t j).2 := if_neg h1
        rw [e, ← nI_1 j] at ih
        exact ih
      · have ih := ih (some (.int (bI (0 < ns))))
        have e : (wbB S nt ns nk fit s t (j + 1)).2 = maxF (wbB S nt ns nk fit s t j).2 (wbB S nt ns nk fit s t (j + 1)).1.2.2.1 := if_pos h1
        rw [e, ← nI_1 j] at ih
        exact ih
  have k0 := key 0 (Nat.zero_le _) none
  rw [← hk] at k0
  exact k0
end QUEST2
