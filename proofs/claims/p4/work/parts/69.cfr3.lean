/-! THE CLASS's texts, sheets, strangers, images, tape, over a new one -/
section CFR3
variable {l : Launch} {X : List (List Int32)} {S : CS} {T : AH} {hp : AH}
set_option maxRecDepth 100000 in
theorem k_same (t u what : Int32) : Ctr l 7 X sgX7_same [.ref 0, .int t, .int u, .int what] (encC CS0 ++ T) (cQ T (.int (samA t u what))) := by
  refine Ctr.of okX7_same rfl (Nat.le_of_ble_eq_true rfl) (run_sound okX7_same (fun i => Nat.beq i 22) 100 ?_)
  refine kH (k_T t) (by decide) (brB' (fun q => lf (if_neg (fun z => q z.1)).symm) (fun q => kH (k_T u) (by decide) (brB' (fun q2 => lf (if_neg (fun z => q2 z.2)).symm) (fun q2 => kH (k_B what 2 1 (by decide)) (by decide) (brB' (fun q3 => lf ((if_pos ⟨q, q2⟩).trans (if_neg q3)).symm) (fun q3 => ?_))))))
  have e : (1 : Int32) = samA t u what := ((if_pos ⟨q, q2⟩).trans (if_pos q3)).symm
  rw [← e]
  have ht := zeP_0 q
  have hu := zeP_0 q2
  subst ht
  subst hu
  have t22 : ∀ v x4, WP l (rmD 7 0 0) X sgX7_same kX7_same (cQ T (.int 1)) 22 [some (.ref 0), some (.int 0), some (.int 0), some (.int what), x4] [.int v] (encC CS0 ++ T) 0 0 := by
    intro v x4
    refine run_sound okX7_same noCut 100 (kH (c_onceOf CS0_len 0) (by decide) (kH (c_onceOf CS0_len 0) (by decide) (brT ?_ (lf rfl))))
    show (onceF CS0 0 ^^^ onceF CS0 0) &&& v = 0
    rw [Int32.xor_self, Int32.zero_and]
  exact br (fun _ => kH k_fit (by decide) (t22 _ _)) (fun _ => t22 _ _)
set_option maxRecDepth 100000 in
theorem k_claims (t : Int32) : Ctr l 7 X sgX7_claims [.ref 0, .int t] (encC CS0 ++ T) (cQ T (.int (claA t))) := by
  refine Ctr.of okX7_claims rfl (Nat.le_of_ble_eq_true rfl) (run_sound okX7_claims noCut 200 ?_)
  refine kH (k_T t) (by decide) (brB' (fun q => lf (if_neg q).symm) (fun q => ?_))
  have ht := zeP_0 q
  subst ht
  exact kH k_fit (by decide) (kH (c_onceOf CS0_len 0) (by decide) (brF (by decide) (kH (c_onceOf CS0_len 0) (by decide) (brT (by decide) (brT (by decide) (lf (by decide)))))))
set_option maxRecDepth 100000 in
theorem k_markOf (a w : Int32) : Ans l 3 X sgX7_markOf [.ref 0, .int a, .int w] (encC CS0 ++ T) (if bitF a 0 = 1 then (if bitF (-1) w = 1 then 1 else 0) else 0) := by
  refine Ctr.of okX7_markOf rfl (Nat.le_of_ble_eq_true rfl) (run_sound okX7_markOf noCut 200 ?_)
  refine brF (by decide) (kH (c_bit a 0) (by decide) (br (fun h => ?_) (fun h => brT (by decide) ⟨rfl, some_int (if_neg h).symm⟩)))
  refine kH (c_onceOf CS0_len 0) (by decide) (kH (c_bit _ _) (by decide) ?_)
  rw [show onceF CS0 0 = -1 by decide]
  refine br (fun h2 => brT (by decide) ⟨rfl, some_int ?_⟩) (fun h2 => brT (by decide) ⟨rfl, some_int ?_⟩)
  · exact ((if_pos h).trans (if_pos h2)).symm
  · exact ((if_pos h).trans (if_neg h2)).symm
set_option maxRecDepth 100000 in
theorem k_settles (a : Int32) : Ans l 4 X sgX7_settles [.ref 0, .int a, .int (-1)] (encC CS0 ++ T) 0 := by
  have hm : ∀ w : Int32, bitF (-1) w = 1 → ∀ m : Int32, m = (if bitF a 0 = 1 then 1 else 0) → Ans l 3 X sgX7_markOf [.ref 0, .int a, .int w] (encC CS0 ++ T) m := by
    intro w hw m hm
    rw [hm]
    have q : Ans l 3 X sgX7_markOf [.ref 0, .int a, .int w] (encC CS0 ++ T) (if bitF a 0 = 1 then (if bitF (-1) w = 1 then 1 else 0) else 0) := k_markOf a w
    rw [if_pos hw] at q
    exact q
  obtain ⟨m, hme⟩ : ∃ m : Int32, m = (if bitF a 0 = 1 then 1 else 0) := ⟨_, rfl⟩
  have h01 : m = 0 ∨ m = 1 := by
    rw [hme]
    split
    · exact Or.inr rfl
    · exact Or.inl rfl
  refine Ctr.of okX7_settles rfl (Nat.le_of_ble_eq_true rfl) (run_sound okX7_settles noCut 200 ?_)
  refine brF (by decide) (kH (c_bit _ _) (by decide) (brT (by decide) (kH (hm 0 (by decide) m hme) (by decide) ?_)))
  refine brC (fun _ => ?_) (fun z => absurd (by rcases h01 with rfl | rfl <;> decide) z)
  refine brF (by decide) (kH (c_bit _ _) (by decide) (brT (by decide) (kH (hm (0 + Int32.ofInt 1) (by decide) m hme) (by decide) ?_)))
  exact brC (fun z => absurd z (by rcases h01 with rfl | rfl <;> decide)) (fun _ => ⟨rfl, rfl, rfl⟩)
set_option maxRecDepth 100000 in
theorem k_settle (what : Int32) : Ctr l 7 X sgX7_settle [.ref 0, .int what] (encC CS0 ++ T) (cQ T (.int (twoA what (-1) (-2)))) := by
  refine Ctr.of okX7_settle rfl (Nat.le_of_ble_eq_true rfl) (run_sound okX7_settle noCut 200 ?_)
  refine kH (k_B what 2 1 (by decide)) (by decide) (brB' (fun q => lf (if_neg q).symm) (fun q => ?_))
  have e : (-1 : Int32) = twoA what (-1) (-2) := (if_pos q).symm
  exact kH k_fit (by decide) (brF (by decide) (kH (k_settles 0) (by decide) (brT rfl (brF (by decide) (kH (k_settles _) (by decide) (brT rfl (brT (by decide) (br (fun _ => lf e) (fun _ => brT rfl (lf e)))))))))) 
set_option maxRecDepth 100000 in
theorem k_thrice (t u v : Int32) : Ctr l 7 X sgX7_thrice [.ref 0, .int t, .int u, .int v] (encC CS0 ++ T) (cQ T (.long (thrA t u v))) := by
  refine Ctr.of okX7_thrice rfl (Nat.le_of_ble_eq_true rfl) (run_sound okX7_thrice noCut 200 ?_)
  refine kH (k_T t) (by decide) (brB' (fun q => ⟨rfl, lfL (if_neg (fun z => q z.1)).symm⟩) (fun q => kH (k_T u) (by decide) (brB' (fun q2 => ⟨rfl, lfL (if_neg (fun z => q2 z.2.1)).symm⟩) (fun q2 => kH (k_T v) (by decide) (brB' (fun q3 => ⟨rfl, lfL (if_neg (fun z => q3 z.2.2)).symm⟩) (fun q3 => ?_))))))
  have e : thrA t u v = 0 := if_pos ⟨q, q2, q3⟩
  rw [e]
  have ht := zeP_0 q
  have hu := zeP_0 q2
  have hv := zeP_0 q3
  subst ht
  subst hu
  subst hv
  exact kH (c_onceOf CS0_len 0) (by decide) (kH (c_onceOf CS0_len 0) (by decide) (kH (c_onceOf CS0_len 0) (by decide) (kH (c_onceOf CS0_len 0) (by decide) (kH (c_onceOf CS0_len 0) (by decide) (kH (c_onceOf CS0_len 0) (by decide) (kH k_fit (by decide) (kH (c_bits _) (by decide) ⟨rfl, lfL (by decide)⟩)))))))
/-- how many are so: least, most, exactly -/
def mcF (what fit : Int32) : Nat → Int32 × Int32 × Int32
  | 0 => (5, 0, 0)
  | w + 1 => if bitF fit (nI w) = 1 then
      (minF (mcF what fit w).1 (bcF (nI w)), maxF (mcF what fit w).2.1 (bcF (nI w)), if bcF (nI w) = what - 2 then (mcF what fit w).2.2 + 1 else (mcF what fit w).2.2)
    else mcF what fit w
def mcA (what fit : Int32) : Int32 := if what = 0 then (mcF what fit 32).1 else if what = 1 then (mcF what fit 32).2.1 else (mcF what fit 32).2.2
set_option maxRecDepth 100000 in
set_option maxHeartbeats 1000000 in
theorem k_many (what : Int32) : Ctr l 7 X sgX7_many [.ref 0, .int what] (encC CS0 ++ T) (cQ T (.int (manA what))) := by
  refine Ctr.of okX7_many rfl (Nat.le_of_ble_eq_true rfl) (run_sound okX7_many (fun i => Nat.beq i 21) 200 ?_)
  refine kH (k_B what 8 7 (by decide)) (by decide) (brB' (fun q => lf (if_neg q).symm) (fun q => ?_))
  have e : mcA what (-1) = manA what := by
    refine Eq.trans ?_ (if_pos q).symm
    obtain ⟨n, hn, rfl⟩ : ∃ n : Nat, n < 8 ∧ what = nI n := by
      have h1 := Int32.le_iff_toInt_le.mp q.1
      have h2 := Int32.le_iff_toInt_le.mp q.2
      have e0 : (0 : Int32).toInt = 0 := by decide
      have e1 : (7 : Int32).toInt = 7 := by decide
      refine ⟨what.toInt.toNat, by omega, Int32.toInt_inj.mp ?_⟩
      rw [nI_toInt (by omega)]
      omega
    have : ∀ n : Fin 8, mcA (nI n.val) (-1) = manF (nI n.val) ALLW := by decide +kernel
    exact this ⟨n, hn⟩
  rw [← e]
  have key : ∀ j, j ≤ 32 → ∀ x7, WP l (rmD 7 0 0) X sgX7_many kX7_many (cQ T (.int (mcA what (-1)))) 21 [some (.ref 0), some (.int what), some (.int (-1)), some (.int (mcF what (-1) j).1), some (.int (mcF what (-1) j).2.1), some (.int (mcF what (-1) j).2.2), some (.int (nI j)), x7] [] (encC CS0 ++ T) 0 0 := by
    refine down (fun x7 => ?_) (fun j hj ih x7 => ?_)
    · refine run_sound okX7_many (fun i => Nat.beq i 21) 200 (brT (Int32.le_refl _) (br (fun p0 => lf ?_) (fun p0 => br (fun p1 => lf ?_) (fun p1 => lf ?_))))
      · exact (if_pos p0).symm
      · exact ((if_neg p0).trans (if_pos p1)).symm
      · exact ((if_neg p0).trans (if_neg p1)).symm
    · refine run_sound okX7_many (fun i => Nat.beq i 21) 200 (brF (ge_no (n := 32) rfl hj (by decide)) (kH (c_bit _ _) (by decide) (br (fun h => kH (c_bitCount _) (by decide) (And.intro (by decide) (And.intro (by decide) (br (fun h2 => ?_) (fun h2 => ?_))))) (fun h => ?_))))
      · have ih := ih (some (.int (bcF (nI j))))
        rw [show mcF what (-1) (j + 1) = (minF (mcF what (-1) j).1 (bcF (nI j)), maxF (mcF what (-1) j).2.1 (bcF (nI j)), (mcF what (-1) j).2.2 + 1) from (if_pos h).trans (by rw [if_pos (show bcF (nI j) = what - 2 from h2)]), ← nI_1 j] at ih
        exact ih
      · have ih := ih (some (.int (bcF (nI j))))
        rw [show mcF what (-1) (j + 1) = (minF (mcF what (-1) j).1 (bcF (nI j)), maxF (mcF what (-1) j).2.1 (bcF (nI j)), (mcF what (-1) j).2.2) from (if_pos h).trans (by rw [if_neg (show ¬ bcF (nI j) = what - 2 from h2)]), ← nI_1 j] at ih
        exact ih
      · have ih := ih x7
        rw [show mcF what (-1) (j + 1) = mcF what (-1) j from if_neg h, ← nI_1 j] at ih
        exact ih
  exact kH k_fit (by decide) (brF (by decide) (key 0 (Nat.zero_le _) none))
set_option maxRecDepth 100000 in
theorem c_isMissing (hL : CLen S) (s : Int32) : Ans l 1 X sgX3_isMissing [.ref 21, .int s] (encC S ++ T) (bI (atF (S.2 22) s = -1)) := by
  refine Ctr.of okX3_isMissing rfl (Nat.le_of_ble_eq_true rfl) (run_sound okX3_isMissing noCut 200 ?_)
  exact kH (c_at (xs := S.2 22) rfl (Nat.lt_of_le_of_lt (hL 22) (by decide))) (by decide) (br (fun h => ⟨rfl, rfl, some_int (bIe1 h)⟩) (fun h => ⟨rfl, rfl, some_int (bIe0 h)⟩))
theorem k_miss {s : Int32} (q : p3P s) : Ans l 1 X sgX3_isMissing [.ref 21, .int s] (encC CS0 ++ T) 1 := by
  have h : Ans l 1 X sgX3_isMissing [.ref 21, .int s] (encC CS0 ++ T) (bI (atF (CS0.2 22) s = -1)) := c_isMissing CS0_len s
  have e : bI (atF (CS0.2 22) s = -1) = 1 := by
    refine bI_t ?_
    rcases in03 q with rfl | rfl | rfl | rfl <;> decide
  rw [e] at h
  exact h
set_option maxRecDepth 100000 in
theorem k_judge (s w : Int32) : Ctr l 2 X sgX7_judge [.ref 0, .int s, .int w] (encC CS0 ++ T) (cQ T (.int (gonA s))) := by
  refine Ctr.of okX7_judge rfl (Nat.le_of_ble_eq_true rfl) (run_sound okX7_judge noCut 200 ?_)
  exact kH (k_B s 4 3 (by decide)) (by decide) (brB' (fun q => lf (if_neg q).symm) (fun q => kH (k_miss q) (by decide) (brF (by decide) (lf (if_pos q).symm))))
set_option maxRecDepth 100000 in
theorem k_cell (s i v : Int32) : Ctr l 2 X sgX7_cell [.ref 0, .int s, .int i, .int v] (encC CS0 ++ T) (cQ T (.int (gonA s))) := by
  refine Ctr.of okX7_cell rfl (Nat.le_of_ble_eq_true rfl) (run_sound okX7_cell noCut 200 ?_)
  exact kH (k_B s 4 3 (by decide)) (by decide) (brB' (fun q => lf (if_neg q).symm) (fun q => kH (k_miss q) (by decide) (brF (by decide) (lf (if_pos q).symm))))
set_option maxRecDepth 100000 in
theorem k_copy (s i o j n : Int32) : Ctr l 2 X sgX7_copy [.ref 0, .int s, .int i, .int o, .int j, .int n] (encC CS0 ++ T) (cQ T (.int (copA s o))) := by
  refine Ctr.of okX7_copy rfl (Nat.le_of_ble_eq_true rfl) (run_sound okX7_copy noCut 200 ?_)
  exact kH (k_B s 4 3 (by decide)) (by decide) (brB' (fun q => lf (if_neg (fun z => q z.1)).symm) (fun q => kH (k_B o 4 3 (by decide)) (by decide) (brB' (fun q2 => lf (if_neg (fun z => q2 z.2)).symm) (fun q2 => kH (k_miss q) (by decide) (brF (by decide) (lf (if_pos ⟨q, q2⟩).symm))))))
set_option maxRecDepth 100000 in
theorem k_sayingsBy (s sort i n : Int32) : Ctr l 2 X sgX7_sayingsBy [.ref 0, .int s, .int sort, .int i, .int n] (encC CS0 ++ T) (cQ T (.int (sbyA s sort n))) := by
  refine Ctr.of okX7_sayingsBy rfl (Nat.le_of_ble_eq_true rfl) (run_sound okX7_sayingsBy noCut 200 ?_)
  refine kH (k_B s 4 3 (by decide)) (by decide) (brB' (fun q => lf (if_neg (fun z => q z.1)).symm) (fun q => br (fun h1 => lf (if_neg (fun z => absurd h1 (Int32.not_lt.mpr z.2.1.1))).symm) (fun h1 => br (fun h2 => ?_) (fun h2 => lf (if_neg (fun z => h2 z.2.1.2)).symm))))
  refine br (fun h3 => lf (if_neg (fun z => absurd h3 (Int32.not_lt.mpr z.2.2.1))).symm) (fun h3 => br (fun h4 => ?_) (fun h4 => lf (if_neg (fun z => h4 z.2.2.2)).symm))
  exact kH (k_miss q) (by decide) (brF (by decide) (lf (if_pos ⟨q, ⟨Int32.not_lt.mp h1, h2⟩, ⟨Int32.not_lt.mp h3, h4⟩⟩).symm))
set_option maxRecDepth 100000 in
theorem k_sayingTaken (i k : Int32) (h : ¬ i < 0) : Ans l 2 X sgX7_sayingTaken [.ref 0, .int i, .int k] (encC CS0 ++ T) (-11) := by
  refine Ctr.of okX7_sayingTaken rfl (Nat.le_of_ble_eq_true rfl) (run_sound okX7_sayingTaken noCut 200 ?_)
  exact brF h ⟨rfl, rfl⟩
set_option maxRecDepth 100000 in
theorem k_speakerTaken (i k : Int32) (h : ¬ i < 0) : Ans l 2 X sgX7_speakerTaken [.ref 0, .int i, .int k] (encC CS0 ++ T) (-11) := by
  refine Ctr.of okX7_speakerTaken rfl (Nat.le_of_ble_eq_true rfl) (run_sound okX7_speakerTaken noCut 200 ?_)
  exact brF h ⟨rfl, rfl⟩
set_option maxRecDepth 100000 in
theorem k_taken (i k : Int32) : Ctr l 3 X sgX7_taken [.ref 0, .int i, .int k] (encC CS0 ++ T) (cQ T (.int (takA i k))) := by
  refine Ctr.of okX7_taken rfl (Nat.le_of_ble_eq_true rfl) (run_sound okX7_taken noCut 200 ?_)
  refine kH (k_B k 7 6 (by decide)) (by decide) (brB' (fun q => lf (if_neg q).symm) (fun q => kH (k_B i 17 16 (by decide)) (by decide) (brB' (fun q2 => lf ((if_pos q).trans (if_neg q2)).symm) (fun q2 => ?_))))
  have e : (-11 : Int32) = takA i k := ((if_pos q).trans (if_pos q2)).symm
  exact br (fun p => kH (k_speakerTaken _ _ (sub12 (Int32.not_lt.mpr p) q2.2)) (by decide) (lf e)) (fun p => kH (k_sayingTaken _ _ (Int32.not_lt.mpr q2.1)) (by decide) (lf e))
end CFR3
