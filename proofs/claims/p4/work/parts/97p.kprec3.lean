/-! THE CLASS in general, precisely: bytes fed, counts, what is taken -/
section KPREC3
variable {l : Launch} {X : List (List Int32)} {S : CS} {T : AH} {hp : AH} {nt ns nk ta : Nat}
/-- bytes behind a row -/
def fdC (xs : List Int32) (ta : Nat) (f : Nat → Int32) : Nat → List Int32
  | 0 => xs
  | j + 1 => (fdC xs ta f j).set (ta + j) (f j)
theorem fdC_len {xs : List Int32} {ta : Nat} {f : Nat → Int32} : ∀ j, (fdC xs ta f j).length = xs.length
  | 0 => rfl
  | j + 1 => by rw [fdC, List.length_set, fdC_len j]
def kfeG (S : CS) (ta : Nat) (n a b c d e : Int32) : CS × Int32 := if feQ n a b c d e then (if 160 < ta + n.toNatClampNeg then (S, -4) else (cN (cR S 2 (fdC (S.2 2) ta (fdV a b c d e) n.toNatClampNeg)) 11 (nI (ta + n.toNatClampNeg)), nI (ta + n.toNatClampNeg))) else (S, -2)
set_option maxRecDepth 100000 in
set_option maxHeartbeats 1000000 in
theorem P_feed (hL : CLen S) (h11 : S.1 11 = nI ta) (h160 : ta ≤ 160) (n a b c d e : Int32) : Ctr l 2 X sgX7_feed [.ref 0, .int n, .int a, .int b, .int c, .int d, .int e] (encC S ++ T) (kpQ T (kfeG S ta n a b c d e)) := by
  refine Ctr.of okX7_feed rfl (Nat.le_of_ble_eq_true rfl) (run_sound okX7_feed cNg 200 ?_)
  refine br (fun h1 => kp (if_neg (fun z => absurd h1 (Int32.not_lt.mpr z.1.1)))) (fun h1 => br (fun h2 => ?_) (fun h2 => kp (if_neg (fun z => h2 z.1.2))))
  have q1 : (1 : Int32) ≤ n ∧ n ≤ 5 := ⟨Int32.not_lt.mp h1, h2⟩
  obtain ⟨m, hm, rfl⟩ : ∃ m : Nat, m ≤ 5 ∧ n = nI m := by
    have h1 := Int32.le_iff_toInt_le.mp q1.1
    have h2 := Int32.le_iff_toInt_le.mp q1.2
    have e1 : (1 : Int32).toInt = 1 := by decide
    have e5 : (5 : Int32).toInt = 5 := by decide
    refine ⟨n.toInt.toNat, by omega, Int32.toInt_inj.mp ?_⟩
    rw [nI_toInt (by omega)]
    omega
  refine kH (c_isByte _) (by decide) (brB' (fun q => kp (if_neg (fun z => q z.2.1))) (fun qa => ?_))
  refine kH (c_isByte _) (by decide) (brB' (fun q => kp (if_neg (fun z => q z.2.2.1))) (fun qb => ?_))
  refine kH (c_isByte _) (by decide) (brB' (fun q => kp (if_neg (fun z => q z.2.2.2.1))) (fun qc => ?_))
  refine kH (c_isByte _) (by decide) (brB' (fun q => kp (if_neg (fun z => q z.2.2.2.2.1))) (fun qd => ?_))
  refine kH (c_isByte _) (by decide) (brB' (fun q => kp (if_neg (fun z => q z.2.2.2.2.2))) (fun qe => ?_))
  have yes : feQ (nI m) a b c d e := ⟨q1, qa, qb, qc, qd, qe⟩
  have cm : (nI m).toNatClampNeg = m := nI_clamp (by omega)
  have hsum : S.1 11 + nI m ≤ 160 ↔ ta + m ≤ 160 := by
    rw [h11, nI_add]
    exact nI_leI (b := 160) (by omega) (by decide)
  refine br (fun y => ?_) (fun y => kp ((if_pos yes).trans (if_pos (by rw [cm]; exact Nat.lt_of_not_le (fun z => y (hsum.mpr z))))))
  have hb : ta + m ≤ 160 := hsum.mp y
  have eG : kfeG S ta (nI m) a b c d e = (cN (cR S 2 (fdC (S.2 2) ta (fdV a b c d e) m)) 11 (nI (ta + m)), nI (ta + m)) := by
    have := (if_pos yes).trans (if_neg (show ¬ 160 < ta + (nI m).toNatClampNeg by rw [cm]; omega)) (a := kfeG S ta (nI m) a b c d e)
    rw [cm] at this
    exact this
  rw [eG]
  have hl2 := hL 2
  have key : ∀ j, j ≤ m → WP l (rmD 2 0 0) X sgX7_feed kX7_feed (kpQ T (cN (cR S 2 (fdC (S.2 2) ta (fdV a b c d e) m)) 11 (nI (ta + m)), nI (ta + m))) 36 [some (.ref 0), some (.int (nI m)), some (.int a), some (.int b), some (.int c), some (.int d), some (.int e), some (.int (nI j))] [] (encC (cN (cR S 2 (fdC (S.2 2) ta (fdV a b c d e) j)) 11 (nI (ta + j))) ++ T) 0 0 := by
    refine down ?_ (fun j hj ih => ?_)
    · exact run_sound okX7_feed cNg 200 (brT (Int32.le_refl _) ⟨rfl, rfl⟩)
    · have hLj : CLen (cN (cR S 2 (fdC (S.2 2) ta (fdV a b c d e) j)) 11 (nI (ta + j))) := (hL.row 2 _ (by rw [fdC_len]; exact hl2)).num 11 _
      have t61 : ∀ x, x = fdV a b c d e j → WP l (rmD 2 0 0) X sgX7_feed kX7_feed (kpQ T (cN (cR S 2 (fdC (S.2 2) ta (fdV a b c d e) m)) 11 (nI (ta + m)), nI (ta + m))) 61 [some (.ref 0), some (.int (nI m)), some (.int a), some (.int b), some (.int c), some (.int d), some (.int e), some (.int (nI j))] [.int x, .ref 1] (encC (cN (cR S 2 (fdC (S.2 2) ta (fdV a b c d e) j)) 11 (nI (ta + j))) ++ T) 0 0 := by
        intro x hx
        subst hx
        refine run_sound okX7_feed cNg 200 (kH (c_tape hLj (fdV a b c d e j) (nI_lt (a := ta + j) (b := 160) (by omega) (by decide))) (by decide) ?_)
        have e2 : putF (fdC (S.2 2) ta (fdV a b c d e) j) (nI (ta + j)) (fdV a b c d e j) = fdC (S.2 2) ta (fdV a b c d e) (j + 1) := putF_n (by omega)
        rw [← e2, show ta + (j + 1) = ta + j + 1 from rfl, ← nI_1 (ta + j), ← nI_1 j] at ih
        exact ih
      exact run_sound okX7_feed cNg 200 (brF (ge_no (n := m) rfl hj (by omega)) (br (fun y => t61 _ (if_pos y).symm) (fun y => br (fun y2 => t61 _ ((if_neg y).trans (if_pos y2)).symm) (fun y2 => br (fun y3 => t61 _ ((if_neg y).trans ((if_neg y2).trans (if_pos y3))).symm) (fun y3 => br (fun y4 => t61 _ ((if_neg y).trans ((if_neg y2).trans ((if_neg y3).trans (if_pos y4)))).symm) (fun y4 => t61 _ ((if_neg y).trans ((if_neg y2).trans ((if_neg y3).trans (if_neg y4)))).symm))))))
  have k0 := key 0 (Nat.zero_le _)
  rw [show ta + 0 = ta from rfl, ← h11] at k0
  exact k0
def kcnG (S : CS) (v : Int32) : Int32 := if v = 0 then S.1 133 else if v = 1 then S.1 134 else if v = 2 then S.1 93 else if v = 3 then S.1 135 else if v = 4 then S.1 11 else -2
set_option maxRecDepth 100000 in
theorem P_count (v : Int32) : Ans l 0 X sgX7_count [.ref 0, .int v] (encC S ++ T) (kcnG S v) := by
  refine Ctr.of okX7_count rfl (Nat.le_of_ble_eq_true rfl) (run_sound okX7_count noCut 100 ?_)
  refine And.intro (fun h => ⟨rfl, some_int ?_⟩) (And.intro (fun h => ?_) (And.intro (fun h => ?_) (And.intro (fun h => ?_) (And.intro (fun h => ?_) (And.intro (fun h => ?_) trivial)))))
  · have n0 : ¬ v = 0 := fun z => by subst z; revert h; decide
    have n1 : ¬ v = 1 := fun z => by subst z; revert h; decide
    have n2 : ¬ v = 2 := fun z => by subst z; revert h; decide
    have n3 : ¬ v = 3 := fun z => by subst z; revert h; decide
    have n4 : ¬ v = 4 := fun z => by subst z; revert h; decide
    unfold kcnG
    rw [if_neg n0, if_neg n1, if_neg n2, if_neg n3, if_neg n4]
    rfl
  all_goals
    subst h
    exact ⟨rfl, rfl⟩
def oneOf (a b : Int32) : Int32 := if a = b then 1 else if b = 0 then 1 else if a = 3 ∧ b = 1 then 1 else if a = 5 ∧ b = 2 then 1 else 0
set_option maxRecDepth 100000 in
theorem P_isOneOf (a b : Int32) : Ans l 0 X sgX7_isOneOf [.int a, .int b] hp (oneOf a b) := by
  refine Ctr.of okX7_isOneOf rfl (Nat.le_of_ble_eq_true rfl) (run_sound okX7_isOneOf (fun i => Nat.beq i 13 || Nat.beq i 19 || Nat.beq i 21) 200 ?_)
  have t19 : oneOf a b = 1 → WP l (rmD 0 0 0) X sgX7_isOneOf kX7_isOneOf (fun h w => h = hp ∧ w = some (.int (oneOf a b))) 19 [some (.int a), some (.int b)] [] hp 0 0 := fun e => by
    rw [e]
    exact run_sound okX7_isOneOf noCut 200 ⟨rfl, rfl, rfl⟩
  have t21 : oneOf a b = 0 → WP l (rmD 0 0 0) X sgX7_isOneOf kX7_isOneOf (fun h w => h = hp ∧ w = some (.int (oneOf a b))) 21 [some (.int a), some (.int b)] [] hp 0 0 := fun e => by
    rw [e]
    exact run_sound okX7_isOneOf noCut 200 ⟨rfl, rfl, rfl⟩
  refine br (fun y => ⟨rfl, rfl, some_int (if_pos y).symm⟩) (fun y => br (fun y2 => ⟨rfl, rfl, some_int ((if_neg y).trans (if_pos y2)).symm⟩) (fun y2 => ?_))
  have e : oneOf a b = if a = 3 ∧ b = 1 then 1 else if a = 5 ∧ b = 2 then 1 else 0 := (if_neg y).trans (if_neg y2)
  have t13 : ¬ (a = 3 ∧ b = 1) → WP l (rmD 0 0 0) X sgX7_isOneOf kX7_isOneOf (fun h w => h = hp ∧ w = some (.int (oneOf a b))) 13 [some (.int a), some (.int b)] [] hp 0 0 := fun n => by
    refine run_sound okX7_isOneOf (fun i => Nat.beq i 19 || Nat.beq i 21) 200 (br (fun z => br (fun z2 => t19 ?_) (fun z2 => t21 ?_)) (fun z => t21 ?_))
    · exact e.trans ((if_neg n).trans (if_pos ⟨z, z2⟩))
    · exact e.trans ((if_neg n).trans (if_neg (fun w => z2 w.2)))
    · exact e.trans ((if_neg n).trans (if_neg (fun w => z w.1)))
  exact br (fun z => br (fun z2 => t19 (e.trans (if_pos ⟨z, z2⟩))) (fun z2 => t13 (fun w => z2 w.2))) (fun z => t13 (fun w => z w.1))
def ksaT (S : CS) (i k : Int32) : Int32 := if i < S.1 134 then (if k = 6 then partF S i 2 else -13) else -11
set_option maxRecDepth 100000 in
theorem P_sayingTaken (hL : CLen S) (i k : Int32) : Ans l 2 X sgX7_sayingTaken [.ref 0, .int i, .int k] (encC S ++ T) (ksaT S i k) := by
  refine Ctr.of okX7_sayingTaken rfl (Nat.le_of_ble_eq_true rfl) (run_sound okX7_sayingTaken noCut 200 ?_)
  exact br (fun y => br (fun y2 => kH (c_sayingPart hL i 2) (by decide) ⟨rfl, some_int ((if_pos y).trans (if_pos y2)).symm⟩) (fun y2 => ⟨rfl, some_int ((if_pos y).trans (if_neg y2)).symm⟩)) (fun y => ⟨rfl, some_int (if_neg y).symm⟩)
def kspT (S : CS) (i k : Int32) : Int32 := if i < S.1 133 then (if oneOf (atF (S.2 14) i) k = 0 then -13 else i) else -11
set_option maxRecDepth 100000 in
theorem P_speakerTaken (hL : CLen S) (i k : Int32) : Ans l 2 X sgX7_speakerTaken [.ref 0, .int i, .int k] (encC S ++ T) (kspT S i k) := by
  refine Ctr.of okX7_speakerTaken rfl (Nat.le_of_ble_eq_true rfl) (run_sound okX7_speakerTaken noCut 200 ?_)
  exact br (fun y => kH (c_at (xs := S.2 14) rfl (hL.lt 14)) (by decide) (kH (P_isOneOf _ _) (by decide) (br (fun z => ⟨rfl, some_int ((if_pos y).trans (if_pos z)).symm⟩) (fun z => ⟨rfl, some_int ((if_pos y).trans (if_neg z)).symm⟩)))) (fun y => ⟨rfl, some_int (if_neg y).symm⟩)
def ktkG (S : CS) (i k : Int32) : Int32 := if kxP 7 k then (if kxP 17 i then (if i < 12 then ksaT S i k else kspT S (i - 12) k) else -12) else -2
set_option maxRecDepth 100000 in
theorem P_taken (hL : CLen S) (i k : Int32) : Ans l 3 X sgX7_taken [.ref 0, .int i, .int k] (encC S ++ T) (ktkG S i k) := by
  refine Ctr.of okX7_taken rfl (Nat.le_of_ble_eq_true rfl) (run_sound okX7_taken noCut 200 ?_)
  exact kH (c_isBelow k 7) (by decide) (brB' (fun q => ⟨rfl, some_int (if_neg q).symm⟩) (fun q => kH (c_isBelow i 17) (by decide) (brB' (fun q2 => ⟨rfl, some_int ((if_pos q).trans (if_neg q2)).symm⟩) (fun q2 => br (fun y => kH (P_speakerTaken hL _ _) (by decide) ⟨rfl, some_int ((if_pos q).trans ((if_pos q2).trans (if_neg (fun z => absurd y (Int32.not_le.mpr z))))).symm⟩) (fun y => kH (P_sayingTaken hL _ _) (by decide) ⟨rfl, some_int ((if_pos q).trans ((if_pos q2).trans (if_pos (Int32.not_le.mp y)))).symm⟩)))))
end KPREC3
