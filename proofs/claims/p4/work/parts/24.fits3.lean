section FITS3
variable {l : Launch} {X : List (List Int32)} {S : CS} {T : AH} {nt ns nk : Nat}
/-- were some mad -/
def madF (S : CS) (who : Int32) : Nat → Int32
  | 0 => lawF S
  | k + 1 => madF S who k &&& (if bitF who (partF S (nI k) 0) = 1 then asF S (nI k) 4 else sayF S (nI k))
set_option maxRecDepth 100000 in
theorem c_fittingWereMad (hI : CInv S nt ns nk) (who : Int32) : Ans l 5 X sgX7_fittingWereMad [.ref 0, .int who] (encC S ++ T) (madF S who nk) := by
  obtain ⟨hL, -, -, -, -, hk, hk12⟩ := hI
  refine Ctr.of okX7_fittingWereMad rfl (Nat.le_of_ble_eq_true rfl) (run_sound okX7_fittingWereMad (fun i => Nat.beq i 5) 100 ?_)
  refine kH (c_lawful hL) (by decide) ?_
  have key : ∀ j, j ≤ nk → ∀ x4, WP l (rmD 5 0 0) X sgX7_fittingWereMad kX7_fittingWereMad (kR S T (madF S who nk)) 5 [some (.ref 0), some (.int who), some (.int (madF S who j)), some (.int (nI j)), x4] [] (encC S ++ T) 0 0 := by
    refine down (fun x4 => ?_) (fun j hj ih x4 => ?_)
    · exact run_sound okX7_fittingWereMad (fun i => Nat.beq i 5) 100 (brT (ge_end hk) ⟨rfl, rfl⟩)
    · refine run_sound okX7_fittingWereMad (fun i => Nat.beq i 5) 100 (brF (ge_no hk hj (by omega)) (kH (c_sayingPart hL _ _) (by decide) (kH (c_bit _ _) (by decide) (br (fun h1 => ?_) (fun h1 => ?_)))))
      · refine brF (by decide) (kH (c_sayableAs hL _ _) (by decide) ?_)
        have ih := ih (some (.int 1))
        rw [show madF S who (j + 1) = madF S who j &&& asF S (nI j) 4 by rw [madF, if_pos (show bitF who (partF S (nI j) 0) = 1 from h1)], ← nI_1 j] at ih
        exact ih
      · refine brT rfl (kH (c_sayable hL _) (by decide) ?_)
        have ih := ih (some (.int 0))
        rw [show madF S who (j + 1) = madF S who j &&& sayF S (nI j) by rw [madF, if_neg (show ¬ bitF who (partF S (nI j) 0) = 1 from h1)], ← nI_1 j] at ih
        exact ih
  exact key 0 (Nat.zero_le _) none
def madL (S : CS) (nk : Nat) : Nat → Int32
  | 0 => -1
  | w + 1 => if madF S (nI w) nk = 0 then madL S nk w else if madL S nk w = -1 then nI w else fewerF (nI w) (madL S nk w)
def madA (S : CS) (ns nk : Nat) (what : Int32) : Int32 := if ¬ (0 ≤ what ∧ what < 2) then -2 else if what = 1 ∨ madL S nk (2 ^ ns) = -1 then madL S nk (2 ^ ns) else bcF (madL S nk (2 ^ ns))
theorem shl_nI : ∀ n, n ≤ 12 → (1 : Int32) <<< (nI n &&& 31) = nI (2 ^ n) := by decide +kernel
set_option maxRecDepth 100000 in
theorem c_mad (hI : CInv S nt ns nk) (what : Int32) : Ans l 6 X sgX7_mad [.ref 0, .int what] (encC S ++ T) (madA S ns nk what) := by
  have hI0 := hI
  obtain ⟨hL, -, -, hs, hs5, hk, hk12⟩ := hI
  have hp2 : 2 ^ ns ≤ 32 := Nat.le_trans (Nat.pow_le_pow_right (by decide) hs5) (by decide)
  have hsh : (1 : Int32) <<< (S.1 133 &&& 31) = nI (2 ^ ns) := by rw [hs]; exact shl_nI ns (by omega)
  refine Ctr.of okX7_mad rfl (Nat.le_of_ble_eq_true rfl) (run_sound okX7_mad (fun i => Nat.beq i 10) 100 ?_)
  refine kH (c_isBelow _ _) (by decide) (brB' (fun h => ⟨rfl, some_int (if_pos h).symm⟩) (fun h => ?_))
  have hv : madA S ns nk what = if what = 1 ∨ madL S nk (2 ^ ns) = -1 then madL S nk (2 ^ ns) else bcF (madL S nk (2 ^ ns)) := if_neg (not_not_intro h)
  rw [hv]
  have key : ∀ j, j ≤ 2 ^ ns → WP l (rmD 6 0 0) X sgX7_mad kX7_mad (kR S T (if what = 1 ∨ madL S nk (2 ^ ns) = -1 then madL S nk (2 ^ ns) else bcF (madL S nk (2 ^ ns)))) 10 [some (.ref 0), some (.int what), some (.int (madL S nk j)), some (.int (nI j))] [] (encC S ++ T) 0 0 := by
    refine down ?_ (fun j hj ih => ?_)
    · refine run_sound okX7_mad (fun i => Nat.beq i 10) 100 (brT (ge_end hsh) (br (fun h1 => ⟨rfl, some_int (if_pos (Or.inl h1)).symm⟩) (fun h1 => br (fun h2 => ⟨rfl, some_int (if_pos (Or.inr h2)).symm⟩) (fun h2 => kH (c_bitCount _) (by decide) ⟨rfl, some_int (if_neg (fun z => z.elim h1 h2)).symm⟩))))
    · refine run_sound okX7_mad (fun i => Nat.beq i 10) 100 (brF (ge_no hsh hj (by omega)) (kH (c_fittingWereMad hI0 _) (by decide) (br (fun h1 => ?_) (fun h1 => br (fun h2 => ?_) (fun h2 => kH (c_fewer _ _) (by decide) ?_)))))
      · rw [show madL S nk (j + 1) = madL S nk j from if_pos h1, ← nI_1 j] at ih
        exact ih
      · rw [show madL S nk (j + 1) = nI j from (if_neg (c := madF S (nI j) nk = 0) h1).trans (if_pos (c := madL S nk j = -1) h2), ← nI_1 j] at ih
        exact ih
      · rw [show madL S nk (j + 1) = fewerF (nI j) (madL S nk j) from (if_neg (c := madF S (nI j) nk = 0) h1).trans (if_neg (c := madL S nk j = -1) h2), ← nI_1 j] at ih
        exact ih
  exact key 0 (Nat.zero_le _)
/-- were a speaker of a kind -/
def allF (S : CS) (s kind : Int32) : Nat → Int32
  | 0 => -1
  | k + 1 => if partF S (nI k) 0 = s then allF S s kind k &&& asF S (nI k) kind else allF S s kind k
set_option maxRecDepth 100000 in
theorem c_allSayableWere (hI : CInv S nt ns nk) (s kind : Int32) : Ans l 4 X sgX7_allSayableWere [.ref 0, .int s, .int kind] (encC S ++ T) (allF S s kind nk) := by
  obtain ⟨hL, -, -, -, -, hk, hk12⟩ := hI
  refine Ctr.of okX7_allSayableWere rfl (Nat.le_of_ble_eq_true rfl) (run_sound okX7_allSayableWere (fun i => Nat.beq i 4) 100 ?_)
  have key : ∀ j, j ≤ nk → WP l (rmD 4 0 0) X sgX7_allSayableWere kX7_allSayableWere (kR S T (allF S s kind nk)) 4 [some (.ref 0), some (.int s), some (.int kind), some (.int (allF S s kind j)), some (.int (nI j))] [] (encC S ++ T) 0 0 := by
    refine down ?_ (fun j hj ih => ?_)
    · exact run_sound okX7_allSayableWere (fun i => Nat.beq i 4) 100 (brT (ge_end hk) ⟨rfl, rfl⟩)
    · refine run_sound okX7_allSayableWere (fun i => Nat.beq i 4) 100 (brF (ge_no hk hj (by omega)) (kH (c_sayingPart hL _ _) (by decide) (br (fun h1 => kH (c_sayableAs hL _ _) (by decide) ?_) (fun h1 => ?_))))
      · rw [show allF S s kind (j + 1) = allF S s kind j &&& asF S (nI j) kind from if_pos h1, ← nI_1 j] at ih
        exact ih
      · rw [show allF S s kind (j + 1) = allF S s kind j from if_neg h1, ← nI_1 j] at ih
        exact ih
  exact key 0 (Nat.zero_le _)
def kindsF (S : CS) (nk : Nat) (s w : Int32) : Nat → Int32
  | 0 => 0
  | k + 1 => if bitF (allF S s (nI k) nk) w = 1 then kindsF S nk s w k ||| (1 <<< (nI k &&& 31)) else kindsF S nk s w k
def kindsA (S : CS) (nk : Nat) (s w : Int32) : Int32 := if (0 ≤ s ∧ s < S.1 133) ∧ (0 ≤ w ∧ w < 32) then kindsF S nk s w 6 else -5
set_option maxRecDepth 100000 in
theorem c_kinds (hI : CInv S nt ns nk) (s w : Int32) : Ans l 5 X sgX7_kinds [.ref 0, .int s, .int w] (encC S ++ T) (kindsA S nk s w) := by
  refine Ctr.of okX7_kinds rfl (Nat.le_of_ble_eq_true rfl) (run_sound okX7_kinds (fun i => Nat.beq i 13) 100 ?_)
  refine kH (c_isSpeaker _) (by decide) (brB' (fun h => ⟨rfl, some_int (if_neg (fun z => h z.1)).symm⟩) (fun h => kH (c_isWorld _) (by decide) (brB' (fun h1 => ⟨rfl, some_int (if_neg (fun z => h1 z.2)).symm⟩) (fun h1 => ?_))))
  rw [show kindsA S nk s w = kindsF S nk s w 6 from if_pos ⟨h, h1⟩]
  have key : ∀ j, j ≤ 6 → WP l (rmD 5 0 0) X sgX7_kinds kX7_kinds (kR S T (kindsF S nk s w 6)) 13 [some (.ref 0), some (.int s), some (.int w), some (.int (kindsF S nk s w j)), some (.int (nI j))] [] (encC S ++ T) 0 0 := by
    refine down ?_ (fun j hj ih => ?_)
    · exact run_sound okX7_kinds (fun i => Nat.beq i 13) 100 (brT (Int32.le_refl _) ⟨rfl, rfl⟩)
    · refine run_sound okX7_kinds (fun i => Nat.beq i 13) 100 (brF (ge_no (n := 6) rfl hj (by decide)) (kH (c_allSayableWere hI _ _) (by decide) (kH (c_bit _ _) (by decide) (br (fun h2 => ?_) (fun h2 => ?_)))))
      · rw [show kindsF S nk s w (j + 1) = kindsF S nk s w j ||| (1 <<< (nI j &&& 31)) from if_pos h2, ← nI_1 j] at ih
        exact ih
      · rw [show kindsF S nk s w (j + 1) = kindsF S nk s w j from if_neg h2, ← nI_1 j] at ih
        exact ih
  exact key 0 (Nat.zero_le _)
/-- the greatest common divisor, 64 steps at most -/
def gcdF : Nat → Int32 → Int32 → Int32
  | 0, a, _ => a
  | m + 1, a, b => if b = 0 then a else gcdF m b (a - a / b * b)
set_option maxRecDepth 100000 in
theorem c_commonDivisor {hp : AH} (a b : Int32) : Ans l 0 X sgX7_commonDivisor [.int a, .int b] hp (gcdF 64 a b) := by
  refine Ctr.of okX7_commonDivisor rfl (Nat.le_of_ble_eq_true rfl) (run_sound okX7_commonDivisor (fun i => Nat.beq i 6) 100 ?_)
  have key : ∀ j, j ≤ 64 → ∀ x y x5, gcdF 64 a b = gcdF (64 - j) x y → WP l (rmD 0 0 0) X sgX7_commonDivisor kX7_commonDivisor (fun h w => h = hp ∧ w = some (.int (gcdF 64 a b))) 6 [some (.int a), some (.int b), some (.int x), some (.int y), some (.int (nI j)), x5] [] hp 0 0 := by
    refine down (fun x y x5 h => ?_) (fun j hj ih x y x5 h => ?_)
    · exact run_sound okX7_commonDivisor (fun i => Nat.beq i 6) 100 (brT (Int32.le_refl _) ⟨rfl, some_int h.symm⟩)
    · rw [show 64 - j = (64 - (j + 1)) + 1 by omega] at h
      refine run_sound okX7_commonDivisor (fun i => Nat.beq i 6) 100 (brF (ge_no (n := 64) rfl hj (by decide)) (br (fun h1 => ⟨rfl, some_int (h.trans (if_pos (c := y = 0) h1)).symm⟩) (fun h1 => And.intro h1 ?_)))
      have ih := ih y (x - x / y * y) (some (.int (x - x / y * y))) (h.trans (if_neg (c := y = 0) h1))
      rw [← nI_1 j] at ih
      exact ih
  exact key 0 (Nat.zero_le _) a b none rfl
def lowF (above below part : Int32) : Int64 := if below = 0 ∨ gcdF 64 above below = 0 then -4611686018427387904 else if part = 0 then (above / gcdF 64 above below).toInt64 else (below / gcdF 64 above below).toInt64
theorem some_long {x y : Int64} (h : x = y) : (some (Value.long x)) = some (.long y) := by rw [h]
set_option maxRecDepth 100000 in
theorem c_inLowestTerms {hp : AH} (a b part : Int32) : AnsL l 1 X sgX7_inLowestTerms [.int a, .int b, .int part] hp (lowF a b part) := by
  refine Ctr.of okX7_inLowestTerms rfl (Nat.le_of_ble_eq_true rfl) (run_sound okX7_inLowestTerms noCut 100 ?_)
  refine kH (c_commonDivisor _ _) (by decide) (br (fun h1 => ⟨rfl, rfl, some_long (if_pos (Or.inl h1)).symm⟩) (fun h1 => br (fun h2 => ⟨rfl, rfl, some_long (if_pos (Or.inr h2)).symm⟩) (fun h2 => br (fun h3 => And.intro h2 ⟨rfl, rfl, some_long ?_⟩) (fun h3 => And.intro h2 ⟨rfl, rfl, some_long ?_⟩))))
  · exact ((if_neg (c := b = 0 ∨ gcdF 64 a b = 0) (fun z => z.elim h1 h2)).trans (if_pos (c := part = 0) h3)).symm
  · exact ((if_neg (c := b = 0 ∨ gcdF 64 a b = 0) (fun z => z.elim h1 h2)).trans (if_neg (c := part = 0) h3)).symm
end FITS3
