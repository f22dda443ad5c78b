/-! THE STRING CONSTANTS: length and charAt, by the library's own code; what a word spells -/
section STRINGS
variable {l : Launch} {X : List (List Int32)} {S : CS} {T : AH} {hp : AH}
theorem lt7 {i : Nat} (h : i < 7) : i = 0 ∨ i = 1 ∨ i = 2 ∨ i = 3 ∨ i = 4 ∨ i = 5 ∨ i = 6 := by omega
set_option maxRecDepth 100000 in
theorem j_coder : ∀ i, i < 7 → Ans l 0 X sgJ0_coder_7d493 [.ref (1100 + i)] hp 0 := by
  intro i hi
  rcases lt7 hi with rfl | rfl | rfl | rfl | rfl | rfl | rfl
  all_goals
    refine Ctr.of okJ0_coder_7d493 rfl (Nat.le_of_ble_eq_true rfl) (run_sound okJ0_coder_7d493 noCut 100 ?_)
    exact brF (by decide) ⟨rfl, rfl, rfl⟩
set_option maxRecDepth 100000 in
theorem j_latin : ∀ i, i < 7 → Ans l 0 X sgJ0_isLatin1_aae02 [.ref (1100 + i)] hp 1 := by
  intro i hi
  rcases lt7 hi with rfl | rfl | rfl | rfl | rfl | rfl | rfl
  all_goals
    refine Ctr.of okJ0_isLatin1_aae02 rfl (Nat.le_of_ble_eq_true rfl) (run_sound okJ0_isLatin1_aae02 noCut 100 ?_)
    exact brF (by decide) (brT rfl ⟨rfl, rfl, rfl⟩)
set_option maxRecDepth 100000 in
theorem j_length : ∀ i, i < 7 → Ans l 1 X sgJ0_length_8abf5 [.ref (1100 + i)] hp (nI (lenS.getD i 0)) := by
  intro i hi
  have hc := j_coder (l := l) (X := X) (hp := hp) i hi
  rcases lt7 hi with rfl | rfl | rfl | rfl | rfl | rfl | rfl
  all_goals
    refine Ctr.of okJ0_length_8abf5 rfl (Nat.le_of_ble_eq_true rfl) (run_sound okJ0_length_8abf5 noCut 100 ?_)
    exact Exists.intro _ (And.intro rfl (kH hc (by decide) ⟨rfl, some_int (by decide)⟩))
set_option maxRecDepth 100000 in
theorem j_pre0 (k n : Int32) (h0 : ¬ k < 0) (h1 : k < n) : Ans l 0 X sgJ3_checkIndex_8e157 [.int k, .int n, .null] hp k := by
  refine Ctr.of okJ3_checkIndex_8e157 rfl (Nat.le_of_ble_eq_true rfl) (run_sound okJ3_checkIndex_8e157 noCut 100 ?_)
  exact brF h0 (brT h1 ⟨rfl, rfl⟩)
set_option maxRecDepth 100000 in
theorem j_pre1 (k n : Int32) (h0 : ¬ k < 0) (h1 : k < n) : Ans l 0 X sgJ3_checkIndex_8e157 [.int k, .int n, .ref 1300] hp k := by
  refine Ctr.of okJ3_checkIndex_8e157 rfl (Nat.le_of_ble_eq_true rfl) (run_sound okJ3_checkIndex_8e157 noCut 100 ?_)
  exact brF h0 (brT h1 ⟨rfl, rfl⟩)
set_option maxRecDepth 100000 in
theorem j_check (k n : Int32) (h0 : ¬ k < 0) (h1 : k < n) : Ctr l 1 X sgJ0_checkIndex_df160 [.int k, .int n] hp (fun h w => h = hp ∧ w = none) := by
  refine Ctr.of okJ0_checkIndex_df160 rfl (Nat.le_of_ble_eq_true rfl) (run_sound okJ0_checkIndex_df160 noCut 100 ?_)
  exact And.intro (kH (j_pre0 k n h0 h1) (by decide) (And.intro rfl ⟨rfl, rfl, rfl⟩)) (kH (j_pre1 k n h0 h1) (by decide) (And.intro rfl ⟨rfl, rfl, rfl⟩))
def chS (i j : Nat) : Int32 := (bytS.getD i []).getD j 0
theorem chS_ok : ∀ i : Fin 7, ∀ j : Fin 5, ((chS i.val j.val &&& 255).toUInt32 % 65536).toInt32 = chS i.val j.val ∧ narrow .char (.int (chS i.val j.val)) = .int (chS i.val j.val) := by decide +kernel
theorem lenS_5 : ∀ i : Fin 7, lenS.getD i.val 0 ≤ 5 := by decide
theorem j_ch {i j : Nat} (hi : i < 7) (hj : j < lenS.getD i 0) : (((bytS.getD i []).getD (nI j).toNatClampNeg 0 &&& 255).toUInt32 % 65536).toInt32 = chS i j ∧ narrow .char (.int (((bytS.getD i []).getD (nI j).toNatClampNeg 0 &&& 255).toUInt32 % 65536).toInt32) = .int (((bytS.getD i []).getD (nI j).toNatClampNeg 0 &&& 255).toUInt32 % 65536).toInt32 := by
  have h5 : j < 5 := Nat.lt_of_lt_of_le hj (lenS_5 ⟨i, hi⟩)
  have h := chS_ok ⟨i, hi⟩ ⟨j, h5⟩
  rw [nI_clamp (by omega)]
  have e : ((bytS.getD i []).getD j 0 &&& 255).toUInt32 % 65536 = ((bytS.getD i []).getD j 0 &&& 255).toUInt32 % 65536 := rfl
  have h1 : (((bytS.getD i []).getD j 0 &&& 255).toUInt32 % 65536).toInt32 = chS i j := h.1
  rw [h1]
  exact ⟨rfl, h.2⟩
set_option maxRecDepth 100000 in
theorem j_lat : ∀ i, i < 7 → ∀ j, j < lenS.getD i 0 → Ans l 2 X sgJ1_charAt_3b067 [.ref (1200 + i), .int (nI j)] hp (chS i j) := by
  intro i hi j hj
  have h5 : j < 5 := Nat.lt_of_lt_of_le hj (lenS_5 ⟨i, hi⟩)
  have hc := j_check (l := l) (X := X) (hp := hp) (nI j) (Int32.ofNat (bytS.getD i []).length) (nI_pos (by omega)) (by rw [← byt_len ⟨i, hi⟩]; exact nI_lt hj (Nat.lt_of_le_of_lt (lenS_5 ⟨i, hi⟩) (by decide)))
  have hv : vp_in (nI j) (lenS.getD i 0) := vp_nI hj (Nat.lt_of_le_of_lt (lenS_5 ⟨i, hi⟩) (by decide))
  have hch := j_ch hi hj
  rcases lt7 hi with rfl | rfl | rfl | rfl | rfl | rfl | rfl
  all_goals
    refine Ctr.of okJ1_charAt_3b067 rfl (Nat.le_of_ble_eq_true rfl) (run_sound okJ1_charAt_3b067 noCut 100 ?_)
    exact Exists.intro _ (And.intro rfl (kH hc (by decide) (And.intro hv ⟨hch.2, rfl, some_int hch.1⟩)))
theorem ch_nar {i j : Nat} (hi : i < 7) (hj : j < lenS.getD i 0) : narrow .char (.int (chS i j)) = .int (chS i j) :=
  (chS_ok ⟨i, hi⟩ ⟨j, Nat.lt_of_lt_of_le hj (lenS_5 ⟨i, hi⟩)⟩).2
set_option maxRecDepth 100000 in
theorem j_charAt : ∀ i, i < 7 → ∀ j, j < lenS.getD i 0 → Ans l 3 X sgJ0_charAt_5068e [.ref (1100 + i), .int (nI j)] hp (chS i j) := by
  intro i hi j hj
  have h1 := j_latin (l := l) (X := X) (hp := hp) i hi
  have h2 := j_lat (l := l) (X := X) (hp := hp) i hi j hj
  have h3 := ch_nar hi hj
  rcases lt7 hi with rfl | rfl | rfl | rfl | rfl | rfl | rfl
  all_goals
    refine Ctr.of okJ0_charAt_5068e rfl (Nat.le_of_ble_eq_true rfl) (run_sound okJ0_charAt_5068e noCut 100 ?_)
    exact kH h1 (by decide) (brF (by decide) (kH h2 (by decide) ⟨h3, rfl, rfl⟩))
/-- whether what stands from a place on spells a word -/
def spL (tp : List Int32) (pl : Int32) (i : Nat) : Nat → Nat → Int32
  | 0, _ => 1
  | m + 1, j => if chS i j = atF tp (pl + nI j) then spL tp pl i m (j + 1) else 0
def spF (S : CS) (i : Nat) : Int32 := if nI (lenS.getD i 0) = S.1 15 - S.1 14 then spL (S.2 2) (S.1 14) i (lenS.getD i 0) 0 else 0
def cNsp (i : Nat) : Bool := Nat.beq i 14
set_option maxRecDepth 100000 in
theorem c_spells_0 (hL : CLen S) : Ans l 4 X sgX6_spells [.ref 1, .ref 1100] (encC S ++ T) (spF S 0) := by
  have h2 := Nat.lt_of_le_of_lt (hL 2) (show 1000 < 2 ^ 31 by decide)
  have jl : Ans l 1 X sgJ0_length_8abf5 [.ref 1100] (encC S ++ T) (nI 3) := j_length 0 (by decide)
  refine Ctr.of okX6_spells rfl (Nat.le_of_ble_eq_true rfl) (run_sound okX6_spells cNsp 100 ?_)
  refine kH jl (by decide) (br (fun h => ?_) (fun h => ⟨rfl, rfl, some_int (if_neg h).symm⟩))
  rw [show spF S 0 = spL (S.2 2) (S.1 14) 0 3 0 from if_pos h]
  have key : ∀ j, j ≤ 3 → spL (S.2 2) (S.1 14) 0 (3 - j) j = spL (S.2 2) (S.1 14) 0 3 0 → WP l (rmD 4 0 0) X sgX6_spells kX6_spells (fun h w => h = encC S ++ T ∧ w = some (.int (spL (S.2 2) (S.1 14) 0 3 0))) 14 [some (.ref 1), some (.ref 1100), some (.int (nI j))] [] (encC S ++ T) 0 0 := by
    refine down (fun e => ?_) (fun j hj ih e => ?_)
    · exact run_sound okX6_spells cNsp 100 (kH jl (by decide) (brT (Int32.le_refl _) ⟨rfl, rfl, some_int e⟩))
    · rw [show 3 - j = (3 - (j + 1)) + 1 by omega, spL] at e
      have jc : Ans l 3 X sgJ0_charAt_5068e [.ref 1100, .int (nI j)] (encC S ++ T) (chS 0 j) := j_charAt 0 (by decide) j hj
      refine run_sound okX6_spells cNsp 100 (kH jl (by decide) (brF (ge_no (n := 3) rfl hj (by decide)) (kH jc (by decide) (kH (c_at (xs := S.2 2) rfl h2) (by decide) (br (fun p => ?_) (fun p => ?_))))))
      · rw [if_pos (show chS 0 j = atF (S.2 2) (S.1 14 + nI j) from p)] at e
        have ih := ih e
        rw [← nI_1 j] at ih
        exact ih
      · rw [if_neg (show ¬ chS 0 j = atF (S.2 2) (S.1 14 + nI j) from p)] at e
        exact ⟨rfl, rfl, some_int e⟩
  exact key 0 (Nat.zero_le _) rfl
set_option maxRecDepth 100000 in
theorem c_spells_1 (hL : CLen S) : Ans l 4 X sgX6_spells [.ref 1, .ref 1101] (encC S ++ T) (spF S 1) := by
  have h2 := Nat.lt_of_le_of_lt (hL 2) (show 1000 < 2 ^ 31 by decide)
  have jl : Ans l 1 X sgJ0_length_8abf5 [.ref 1101] (encC S ++ T) (nI 4) := j_length 1 (by decide)
  refine Ctr.of okX6_spells rfl (Nat.le_of_ble_eq_true rfl) (run_sound okX6_spells cNsp 100 ?_)
  refine kH jl (by decide) (br (fun h => ?_) (fun h => ⟨rfl, rfl, some_int (if_neg h).symm⟩))
  rw [show spF S 1 = spL (S.2 2) (S.1 14) 1 4 0 from if_pos h]
  have key : ∀ j, j ≤ 4 → spL (S.2 2) (S.1 14) 1 (4 - j) j = spL (S.2 2) (S.1 14) 1 4 0 → WP l (rmD 4 0 0) X sgX6_spells kX6_spells (fun h w => h = encC S ++ T ∧ w = some (.int (spL (S.2 2) (S.1 14) 1 4 0))) 14 [some (.ref 1), some (.ref 1101), some (.int (nI j))] [] (encC S ++ T) 0 0 := by
    refine down (fun e => ?_) (fun j hj ih e => ?_)
    · exact run_sound okX6_spells cNsp 100 (kH jl (by decide) (brT (Int32.le_refl _) ⟨rfl, rfl, some_int e⟩))
    · rw [show 4 - j = (4 - (j + 1)) + 1 by omega, spL] at e
      have jc : Ans l 3 X sgJ0_charAt_5068e [.ref 1101, .int (nI j)] (encC S ++ T) (chS 1 j) := j_charAt 1 (by decide) j hj
      refine run_sound okX6_spells cNsp 100 (kH jl (by decide) (brF (ge_no (n := 4) rfl hj (by decide)) (kH jc (by decide) (kH (c_at (xs := S.2 2) rfl h2) (by decide) (br (fun p => ?_) (fun p => ?_))))))
      · rw [if_pos (show chS 1 j = atF (S.2 2) (S.1 14 + nI j) from p)] at e
        have ih := ih e
        rw [← nI_1 j] at ih
        exact ih
      · rw [if_neg (show ¬ chS 1 j = atF (S.2 2) (S.1 14 + nI j) from p)] at e
        exact ⟨rfl, rfl, some_int e⟩
  exact key 0 (Nat.zero_le _) rfl
set_option maxRecDepth 100000 in
theorem c_spells_2 (hL : CLen S) : Ans l 4 X sgX6_spells [.ref 1, .ref 1102] (encC S ++ T) (spF S 2) := by
  have h2 := Nat.lt_of_le_of_lt (hL 2) (show 1000 < 2 ^ 31 by decide)
  have jl : Ans l 1 X sgJ0_length_8abf5 [.ref 1102] (encC S ++ T) (nI 5) := j_length 2 (by decide)
  refine Ctr.of okX6_spells rfl (Nat.le_of_ble_eq_true rfl) (run_sound okX6_spells cNsp 100 ?_)
  refine kH jl (by decide) (br (fun h => ?_) (fun h => ⟨rfl, rfl, some_int (if_neg h).symm⟩))
  rw [show spF S 2 = spL (S.2 2) (S.1 14) 2 5 0 from if_pos h]
  have key : ∀ j, j ≤ 5 → spL (S.2 2) (S.1 14) 2 (5 - j) j = spL (S.2 2) (S.1 14) 2 5 0 → WP l (rmD 4 0 0) X sgX6_spells kX6_spells (fun h w => h = encC S ++ T ∧ w = some (.int (spL (S.2 2) (S.1 14) 2 5 0))) 14 [some (.ref 1), some (.ref 1102), some (.int (nI j))] [] (encC S ++ T) 0 0 := by
    refine down (fun e => ?_) (fun j hj ih e => ?_)
    · exact run_sound okX6_spells cNsp 100 (kH jl (by decide) (brT (Int32.le_refl _) ⟨rfl, rfl, some_int e⟩))
    · rw [show 5 - j = (5 - (j + 1)) + 1 by omega, spL] at e
      have jc : Ans l 3 X sgJ0_charAt_5068e [.ref 1102, .int (nI j)] (encC S ++ T) (chS 2 j) := j_charAt 2 (by decide) j hj
      refine run_sound okX6_spells cNsp 100 (kH jl (by decide) (brF (ge_no (n := 5) rfl hj (by decide)) (kH jc (by decide) (kH (c_at (xs := S.2 2) rfl h2) (by decide) (br (fun p => ?_) (fun p => ?_))))))
      · rw [if_pos (show chS 2 j = atF (S.2 2) (S.1 14 + nI j) from p)] at e
        have ih := ih e
        rw [← nI_1 j] at ih
        exact ih
      · rw [if_neg (show ¬ chS 2 j = atF (S.2 2) (S.1 14 + nI j) from p)] at e
        exact ⟨rfl, rfl, some_int e⟩
  exact key 0 (Nat.zero_le _) rfl
set_option maxRecDepth 100000 in
theorem c_spells_3 (hL : CLen S) : Ans l 4 X sgX6_spells [.ref 1, .ref 1103] (encC S ++ T) (spF S 3) := by
  have h2 := Nat.lt_of_le_of_lt (hL 2) (show 1000 < 2 ^ 31 by decide)
  have jl : Ans l 1 X sgJ0_length_8abf5 [.ref 1103] (encC S ++ T) (nI 5) := j_length 3 (by decide)
  refine Ctr.of okX6_spells rfl (Nat.le_of_ble_eq_true rfl) (run_sound okX6_spells cNsp 100 ?_)
  refine kH jl (by decide) (br (fun h => ?_) (fun h => ⟨rfl, rfl, some_int (if_neg h).symm⟩))
  rw [show spF S 3 = spL (S.2 2) (S.1 14) 3 5 0 from if_pos h]
  have key : ∀ j, j ≤ 5 → spL (S.2 2) (S.1 14) 3 (5 - j) j = spL (S.2 2) (S.1 14) 3 5 0 → WP l (rmD 4 0 0) X sgX6_spells kX6_spells (fun h w => h = encC S ++ T ∧ w = some (.int (spL (S.2 2) (S.1 14) 3 5 0))) 14 [some (.ref 1), some (.ref 1103), some (.int (nI j))] [] (encC S ++ T) 0 0 := by
    refine down (fun e => ?_) (fun j hj ih e => ?_)
    · exact run_sound okX6_spells cNsp 100 (kH jl (by decide) (brT (Int32.le_refl _) ⟨rfl, rfl, some_int e⟩))
    · rw [show 5 - j = (5 - (j + 1)) + 1 by omega, spL] at e
      have jc : Ans l 3 X sgJ0_charAt_5068e [.ref 1103, .int (nI j)] (encC S ++ T) (chS 3 j) := j_charAt 3 (by decide) j hj
      refine run_sound okX6_spells cNsp 100 (kH jl (by decide) (brF (ge_no (n := 5) rfl hj (by decide)) (kH jc (by decide) (kH (c_at (xs := S.2 2) rfl h2) (by decide) (br (fun p => ?_) (fun p => ?_))))))
      · rw [if_pos (show chS 3 j = atF (S.2 2) (S.1 14 + nI j) from p)] at e
        have ih := ih e
        rw [← nI_1 j] at ih
        exact ih
      · rw [if_neg (show ¬ chS 3 j = atF (S.2 2) (S.1 14 + nI j) from p)] at e
        exact ⟨rfl, rfl, some_int e⟩
  exact key 0 (Nat.zero_le _) rfl
set_option maxRecDepth 100000 in
theorem c_spells_4 (hL : CLen S) : Ans l 4 X sgX6_spells [.ref 1, .ref 1104] (encC S ++ T) (spF S 4) := by
  have h2 := Nat.lt_of_le_of_lt (hL 2) (show 1000 < 2 ^ 31 by decide)
  have jl : Ans l 1 X sgJ0_length_8abf5 [.ref 1104] (encC S ++ T) (nI 2) := j_length 4 (by decide)
  refine Ctr.of okX6_spells rfl (Nat.le_of_ble_eq_true rfl) (run_sound okX6_spells cNsp 100 ?_)
  refine kH jl (by decide) (br (fun h => ?_) (fun h => ⟨rfl, rfl, some_int (if_neg h).symm⟩))
  rw [show spF S 4 = spL (S.2 2) (S.1 14) 4 2 0 from if_pos h]
  have key : ∀ j, j ≤ 2 → spL (S.2 2) (S.1 14) 4 (2 - j) j = spL (S.2 2) (S.1 14) 4 2 0 → WP l (rmD 4 0 0) X sgX6_spells kX6_spells (fun h w => h = encC S ++ T ∧ w = some (.int (spL (S.2 2) (S.1 14) 4 2 0))) 14 [some (.ref 1), some (.ref 1104), some (.int (nI j))] [] (encC S ++ T) 0 0 := by
    refine down (fun e => ?_) (fun j hj ih e => ?_)
    · exact run_sound okX6_spells cNsp 100 (kH jl (by decide) (brT (Int32.le_refl _) ⟨rfl, rfl, some_int e⟩))
    · rw [show 2 - j = (2 - (j + 1)) + 1 by omega, spL] at e
      have jc : Ans l 3 X sgJ0_charAt_5068e [.ref 1104, .int (nI j)] (encC S ++ T) (chS 4 j) := j_charAt 4 (by decide) j hj
      refine run_sound okX6_spells cNsp 100 (kH jl (by decide) (brF (ge_no (n := 2) rfl hj (by decide)) (kH jc (by decide) (kH (c_at (xs := S.2 2) rfl h2) (by decide) (br (fun p => ?_) (fun p => ?_))))))
      · rw [if_pos (show chS 4 j = atF (S.2 2) (S.1 14 + nI j) from p)] at e
        have ih := ih e
        rw [← nI_1 j] at ih
        exact ih
      · rw [if_neg (show ¬ chS 4 j = atF (S.2 2) (S.1 14 + nI j) from p)] at e
        exact ⟨rfl, rfl, some_int e⟩
  exact key 0 (Nat.zero_le _) rfl
set_option maxRecDepth 100000 in
theorem c_spells_5 (hL : CLen S) : Ans l 4 X sgX6_spells [.ref 1, .ref 1105] (encC S ++ T) (spF S 5) := by
  have h2 := Nat.lt_of_le_of_lt (hL 2) (show 1000 < 2 ^ 31 by decide)
  have jl : Ans l 1 X sgJ0_length_8abf5 [.ref 1105] (encC S ++ T) (nI 3) := j_length 5 (by decide)
  refine Ctr.of okX6_spells rfl (Nat.le_of_ble_eq_true rfl) (run_sound okX6_spells cNsp 100 ?_)
  refine kH jl (by decide) (br (fun h => ?_) (fun h => ⟨rfl, rfl, some_int (if_neg h).symm⟩))
  rw [show spF S 5 = spL (S.2 2) (S.1 14) 5 3 0 from if_pos h]
  have key : ∀ j, j ≤ 3 → spL (S.2 2) (S.1 14) 5 (3 - j) j = spL (S.2 2) (S.1 14) 5 3 0 → WP l (rmD 4 0 0) X sgX6_spells kX6_spells (fun h w => h = encC S ++ T ∧ w = some (.int (spL (S.2 2) (S.1 14) 5 3 0))) 14 [some (.ref 1), some (.ref 1105), some (.int (nI j))] [] (encC S ++ T) 0 0 := by
    refine down (fun e => ?_) (fun j hj ih e => ?_)
    · exact run_sound okX6_spells cNsp 100 (kH jl (by decide) (brT (Int32.le_refl _) ⟨rfl, rfl, some_int e⟩))
    · rw [show 3 - j = (3 - (j + 1)) + 1 by omega, spL] at e
      have jc : Ans l 3 X sgJ0_charAt_5068e [.ref 1105, .int (nI j)] (encC S ++ T) (chS 5 j) := j_charAt 5 (by decide) j hj
      refine run_sound okX6_spells cNsp 100 (kH jl (by decide) (brF (ge_no (n := 3) rfl hj (by decide)) (kH jc (by decide) (kH (c_at (xs := S.2 2) rfl h2) (by decide) (br (fun p => ?_) (fun p => ?_))))))
      · rw [if_pos (show chS 5 j = atF (S.2 2) (S.1 14 + nI j) from p)] at e
        have ih := ih e
        rw [← nI_1 j] at ih
        exact ih
      · rw [if_neg (show ¬ chS 5 j = atF (S.2 2) (S.1 14 + nI j) from p)] at e
        exact ⟨rfl, rfl, some_int e⟩
  exact key 0 (Nat.zero_le _) rfl
set_option maxRecDepth 100000 in
theorem c_spells_6 (hL : CLen S) : Ans l 4 X sgX6_spells [.ref 1, .ref 1106] (encC S ++ T) (spF S 6) := by
  have h2 := Nat.lt_of_le_of_lt (hL 2) (show 1000 < 2 ^ 31 by decide)
  have jl : Ans l 1 X sgJ0_length_8abf5 [.ref 1106] (encC S ++ T) (nI 3) := j_length 6 (by decide)
  refine Ctr.of okX6_spells rfl (Nat.le_of_ble_eq_true rfl) (run_sound okX6_spells cNsp 100 ?_)
  refine kH jl (by decide) (br (fun h => ?_) (fun h => ⟨rfl, rfl, some_int (if_neg h).symm⟩))
  rw [show spF S 6 = spL (S.2 2) (S.1 14) 6 3 0 from if_pos h]
  have key : ∀ j, j ≤ 3 → spL (S.2 2) (S.1 14) 6 (3 - j) j = spL (S.2 2) (S.1 14) 6 3 0 → WP l (rmD 4 0 0) X sgX6_spells kX6_spells (fun h w => h = encC S ++ T ∧ w = some (.int (spL (S.2 2) (S.1 14) 6 3 0))) 14 [some (.ref 1), some (.ref 1106), some (.int (nI j))] [] (encC S ++ T) 0 0 := by
    refine down (fun e => ?_) (fun j hj ih e => ?_)
    · exact run_sound okX6_spells cNsp 100 (kH jl (by decide) (brT (Int32.le_refl _) ⟨rfl, rfl, some_int e⟩))
    · rw [show 3 - j = (3 - (j + 1)) + 1 by omega, spL] at e
      have jc : Ans l 3 X sgJ0_charAt_5068e [.ref 1106, .int (nI j)] (encC S ++ T) (chS 6 j) := j_charAt 6 (by decide) j hj
      refine run_sound okX6_spells cNsp 100 (kH jl (by decide) (brF (ge_no (n := 3) rfl hj (by decide)) (kH jc (by decide) (kH (c_at (xs := S.2 2) rfl h2) (by decide) (br (fun p => ?_) (fun p => ?_))))))
      · rw [if_pos (show chS 6 j = atF (S.2 2) (S.1 14 + nI j) from p)] at e
        have ih := ih e
        rw [← nI_1 j] at ih
        exact ih
      · rw [if_neg (show ¬ chS 6 j = atF (S.2 2) (S.1 14 + nI j) from p)] at e
        exact ⟨rfl, rfl, some_int e⟩
  exact key 0 (Nat.zero_le _) rfl
end STRINGS
