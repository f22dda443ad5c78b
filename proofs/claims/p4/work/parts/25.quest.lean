section QUEST
variable {l : Launch} {X : List (List Int32)} {S : CS} {T : AH} {nt ns nk : Nat}
/-- the best question: speaker, text, worst, cost -/
abbrev BQ : Type := Int32 × Int32 × Int32 × Int32
def setB (S : CS) (B : BQ) : CS := cN (cN (cN (cN S 260 B.1) 261 B.2.1) 262 B.2.2.1) 263 B.2.2.2
def getB (S : CS) : BQ := (S.1 260, S.1 261, S.1 262, S.1 263)
theorem CInv.setB (h : CInv S nt ns nk) (B : BQ) : CInv (setB S B) nt ns nk := h
def considB (B : BQ) (s t w c : Int32) : BQ := if w < B.2.2.1 ∨ (w = B.2.2.1 ∧ c < B.2.2.2) then (s, t, w, c) else B
set_option maxRecDepth 100000 in
theorem c_consider (B : BQ) (s t w c : Int32) : Ctr l 0 X sgX2_consider [.ref 26, .int s, .int t, .int w, .int c] (encC (setB S B) ++ T) (fun h v => h = encC (setB S (considB B s t w c)) ++ T ∧ v = none) := by
  refine Ctr.of okX2_consider rfl (Nat.le_of_ble_eq_true rfl) (run_sound okX2_consider noCut 100 ?_)
  refine br (fun h1 => ?_) (fun h1 => br (fun h2 => br (fun h3 => ?_) (fun h3 => ?_)) (fun h2 => ?_))
  · refine brF (by decide) (And.intro trivial (And.intro trivial (And.intro trivial (And.intro trivial ⟨rfl, ?_, rfl⟩))))
    rw [show considB B s t w c = (s, t, w, c) from if_pos (Or.inl h1)]
    rfl
  · refine brT rfl ⟨rfl, ?_, rfl⟩
    rw [show considB B s t w c = B from if_neg (fun z => z.elim h1 (fun z => absurd z.2 (Int32.not_lt.mpr h3)))]
  · refine brF (by decide) (And.intro trivial (And.intro trivial (And.intro trivial (And.intro trivial ⟨rfl, ?_, rfl⟩))))
    rw [show considB B s t w c = (s, t, w, c) from if_pos (Or.inr ⟨h2, Int32.not_le.mp h3⟩)]
    rfl
  · refine brT rfl ⟨rfl, ?_, rfl⟩
    rw [show considB B s t w c = B from if_neg (fun z => z.elim h1 (fun z => h2 z.1))]
def maxF (a b : Int32) : Int32 := if a < b then b else a
def minF (a b : Int32) : Int32 := if b < a then b else a
def worstF (S : CS) (left s t n : Int32) : Int32 := maxF (bcF (left &&& nextF S s t 0 n)) (bcF (left &&& nextF S s t 1 n))
set_option maxRecDepth 100000 in
theorem c_worstOf (hL : CLen S) (left s t n : Int32) : Ans l 3 X sgX7_worstOf [.ref 0, .int left, .int s, .int t, .int n] (encC S ++ T) (worstF S left s t n) := by
  refine Ctr.of okX7_worstOf rfl (Nat.le_of_ble_eq_true rfl) (run_sound okX7_worstOf noCut 100 ?_)
  exact kH (c_sayableNext hL _ _ _ _) (by decide) (kH (c_bitCount _) (by decide) (kH (c_sayableNext hL _ _ _ _) (by decide) (kH (c_bitCount _) (by decide) (And.intro (by decide) ⟨rfl, rfl⟩))))
def fbI (S : CS) (left n s : Int32) (B : BQ) : Nat → BQ
  | 0 => B
  | t + 1 => considB (fbI S left n s B t) s (nI t) (worstF S left s (nI t) n) (costF S (nI t) s)
def fbO (S : CS) (left n : Int32) (nt : Nat) : Nat → BQ
  | 0 => (S.1 260, S.1 261, 33, S.1 263)
  | s + 1 => fbI S left n (nI s) (fbO S left n nt s) nt
set_option maxRecDepth 100000 in
theorem c_findBest (hI : CInv S nt ns nk) (left n : Int32) : Ctr l 4 X sgX7_findBest [.ref 0, .int left, .int n] (encC S ++ T) (fun h w => h = encC (setB S (fbO S left n nt ns)) ++ T ∧ w = some (.int (bI (0 < ns)))) := by
  have hI0 := hI
  obtain ⟨hL, ht, ⟨ht1, ht6⟩, hs, hs5, -, -⟩ := hI
  refine Ctr.of okX7_findBest rfl (Nat.le_of_ble_eq_true rfl) (run_sound okX7_findBest (fun i => Nat.beq i 6 || Nat.beq i 13) 100 ?_)
  have key : ∀ j, j ≤ ns → ∀ x4, WP l (rmD 4 0 0) X sgX7_findBest kX7_findBest (fun h w => h = encC (setB S (fbO S left n nt ns)) ++ T ∧ w = some (.int (bI (0 < ns)))) 6 [some (.ref 0), some (.int left), some (.int n), some (.int (nI j)), x4] [] (encC (setB S (fbO S left n nt j)) ++ T) 0 0 := by
    refine down (fun x4 => ?_) (fun j hj ih x4 => ?_)
    · refine run_sound okX7_findBest (fun i => Nat.beq i 6 || Nat.beq i 13) 100 (brT (ge_end hs) ?_)
      refine br (fun h1 => ⟨rfl, rfl, some_int ?_⟩) (fun h1 => ⟨rfl, rfl, some_int ?_⟩)
      · refine (bI_f (fun z => ?_)).symm
        have h1 : S.1 133 ≤ 0 := h1
        rw [hs] at h1
        exact absurd h1 (nI_nle z (by omega))
      · refine (bI_t ?_).symm
        have h1 : ¬ S.1 133 ≤ 0 := h1
        rw [hs] at h1
        rcases Nat.eq_zero_or_pos ns with z | z
        · subst z; exact absurd (Int32.le_refl _) h1
        · exact z
    · refine run_sound okX7_findBest (fun i => Nat.beq i 6 || Nat.beq i 13) 100 (brF (ge_no hs hj (by omega)) ?_)
      have inner : ∀ q, q ≤ nt → WP l (rmD 4 0 0) X sgX7_findBest kX7_findBest (fun h w => h = encC (setB S (fbO S left n nt ns)) ++ T ∧ w = some (.int (bI (0 < ns)))) 13 [some (.ref 0), some (.int left), some (.int n), some (.int (nI j)), some (.int (nI q))] [] (encC (setB S (fbI S left n (nI j) (fbO S left n nt j) q)) ++ T) 0 0 := by
        refine down ?_ (fun q hq ihq => ?_)
        · refine run_sound okX7_findBest (fun i => Nat.beq i 6 || Nat.beq i 13) 100 (brT (ge_end ht) ?_)
          have ih := ih (some (.int (nI nt)))
          rw [← nI_1 j] at ih
          exact ih
        · refine run_sound okX7_findBest (fun i => Nat.beq i 6 || Nat.beq i 13) 100 (brF (ge_no ht hq (by omega)) ?_)
          refine kH (c_worstOf (S := setB S (fbI S left n (nI j) (fbO S left n nt j) q)) hL _ _ _ _) (by decide) (kH (c_costOf (S := setB S (fbI S left n (nI j) (fbO S left n nt j) q)) hL _ _) (by decide) (kH (c_consider _ _ _ _ _) (by decide) ?_))
          rw [← nI_1 q] at ihq
          exact ihq
      exact inner 0 (Nat.zero_le _)
  exact And.intro trivial (key 0 (Nat.zero_le _) none)
end QUEST
