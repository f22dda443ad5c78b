/-! THE CLASS's talk and worlds, over a new one -/
section CFR2
variable {l : Launch} {X : List (List Int32)} {S : CS} {T : AH} {hp : AH}
set_option maxRecDepth 100000 in
theorem k_means (t part : Int32) : Ctr l 2 X sgX7_means [.ref 0, .int t, .int part] (encC CS0 ++ T) (cQ T (.long (meaA t part))) := by
  refine Ctr.of okX7_means rfl (Nat.le_of_ble_eq_true rfl) (run_sound okX7_means noCut 100 ?_)
  refine kH (k_T t) (by decide) (brB' (fun q => ⟨rfl, lfL (if_neg (fun z => q z.1)).symm⟩) (fun q => kH (k_B part 2 1 (by decide)) (by decide) (brB' (fun q2 => ⟨rfl, lfL (if_neg (fun z => q2 z.2)).symm⟩) (fun q2 => ?_))))
  have e : meaA t part = if part = 0 then ALLW else 0 := if_pos ⟨q, q2⟩
  rw [e]
  have ht := zeP_0 q
  subst ht
  rcases in01 q2 with rfl | rfl
  · exact kH (c_side CS0_len 0 0 0) (by decide) (kH (c_bits _) (by decide) ⟨rfl, lfL (by decide)⟩)
  · exact kH (c_side CS0_len 0 0 1) (by decide) (kH (c_bits _) (by decide) ⟨rfl, lfL (by decide)⟩)
set_option maxRecDepth 100000 in
theorem k_pairs (who : Int32) : Ctr l 2 X sgX7_pairs [.ref 0, .int who] (encC CS0 ++ T) (cQ T (.int (paiA who))) := by
  refine Ctr.of okX7_pairs rfl (Nat.le_of_ble_eq_true rfl) (run_sound okX7_pairs noCut 200 ?_)
  refine kH (k_B who 5 4 (by decide)) (by decide) (brB' (fun q => lf (if_neg q).symm) (fun q => brF (by decide) (kH (c_side CS0_len 0 who 0) (by decide) (kH (c_side CS0_len 0 who 1) (by decide) ?_))))
  have h1 : sideF CS0 0 who 0 = -1 := by rcases in04 q with rfl | rfl | rfl | rfl | rfl <;> decide
  have h2 : sideF CS0 0 who 1 = 0 := by rcases in04 q with rfl | rfl | rfl | rfl | rfl <;> decide
  rw [h1, h2]
  exact brT (by decide) (brF (by decide) (brT (by decide) (lf (if_pos q).symm)))
set_option maxRecDepth 100000 in
theorem c_become13 (hL : CLen S) (s k m : Int32) : Ctr l 1 X sgX4_become [.ref 13, .int s, .int k, .int m] (encC S ++ T) (fun h w => h = encC (cR (cR S 14 (putF (S.2 14) s k)) 15 (putF (S.2 15) s m)) ++ T ∧ w = none) := by
  refine Ctr.of okX4_become rfl (Nat.le_of_ble_eq_true rfl) (run_sound okX4_become noCut 200 ?_)
  exact kH (c_put (xs := S.2 14) rfl rfl (Nat.lt_of_le_of_lt (hL 14) (by decide))) (by decide) (kH (c_put (xs := S.2 15) rfl rfl (Nat.lt_of_le_of_lt (hL 15) (by decide))) (by decide) ⟨rfl, rfl, rfl⟩)
set_option maxRecDepth 100000 in
theorem c_become17 (hL : CLen S) (s k m : Int32) : Ctr l 1 X sgX4_become [.ref 17, .int s, .int k, .int m] (encC S ++ T) (fun h w => h = encC (cR (cR S 18 (putF (S.2 18) s k)) 19 (putF (S.2 19) s m)) ++ T ∧ w = none) := by
  refine Ctr.of okX4_become rfl (Nat.le_of_ble_eq_true rfl) (run_sound okX4_become noCut 200 ?_)
  exact kH (c_put (xs := S.2 18) rfl rfl (Nat.lt_of_le_of_lt (hL 18) (by decide))) (by decide) (kH (c_put (xs := S.2 19) rfl rfl (Nat.lt_of_le_of_lt (hL 19) (by decide))) (by decide) ⟨rfl, rfl, rfl⟩)
set_option maxRecDepth 100000 in
theorem k_speaker (k m : Int32) : Ctr l 2 X sgX7_speaker [.ref 0, .int k, .int m] (encC CS0 ++ T) (cQ T (.int (spkA k m))) := by
  refine Ctr.of okX7_speaker rfl (Nat.le_of_ble_eq_true rfl) (run_sound okX7_speaker noCut 200 ?_)
  refine kH (k_K k) (by decide) (brB' (fun q => lf (if_neg (fun z => q z.1)).symm) (fun q => kH (c_isMore m) (by decide) (brB' (fun q2 => lf (if_neg (fun z => q2 z.2)).symm) (fun q2 => brT (by decide) (kH (c_become13 CS0_len 0 k m) (by decide) ?_)))))
  exact And.intro rfl (And.intro trivial ⟨⟨cN (cR (cR CS0 14 (putF (CS0.2 14) 0 k)) 15 (putF (CS0.2 15) 0 m)) 133 (CS0.1 133 + Int32.ofInt 1), rfl⟩, some_int (if_pos ⟨q, q2⟩).symm⟩)
set_option maxRecDepth 100000 in
theorem k_turn (s k m : Int32) : Ctr l 2 X sgX7_turn [.ref 0, .int s, .int k, .int m] (encC CS0 ++ T) (cQ T (.int (-5))) := by
  refine Ctr.of okX7_turn rfl (Nat.le_of_ble_eq_true rfl) (run_sound okX7_turn noCut 200 ?_)
  exact kH (k_S s) (by decide) (brT rfl (lf rfl))
set_option maxRecDepth 100000 in
theorem k_told (s k : Int32) : Ctr l 2 X sgX7_told [.ref 0, .int s, .int k] (encC CS0 ++ T) (cQ T (.int (-5))) := by
  refine Ctr.of okX7_told rfl (Nat.le_of_ble_eq_true rfl) (run_sound okX7_told noCut 200 ?_)
  exact kH (k_S s) (by decide) (brT rfl (lf rfl))
set_option maxRecDepth 100000 in
theorem k_say (s t u : Int32) : Ctr l 2 X sgX7_say [.ref 0, .int s, .int t, .int u] (encC CS0 ++ T) (cQ T (.int (-5))) := by
  refine Ctr.of okX7_say rfl (Nat.le_of_ble_eq_true rfl) (run_sound okX7_say noCut 200 ?_)
  exact kH (k_S s) (by decide) (brT rfl (lf rfl))
set_option maxRecDepth 100000 in
theorem k_unsay : Ctr l 2 X sgX7_unsay [.ref 0] (encC CS0 ++ T) (cQ T (.int (-3))) := by
  refine Ctr.of okX7_unsay rfl (Nat.le_of_ble_eq_true rfl) (run_sound okX7_unsay noCut 200 ?_)
  exact brF (by decide) (lf rfl)
set_option maxRecDepth 100000 in
theorem k_said (k what : Int32) : Ctr l 2 X sgX7_said [.ref 0, .int k, .int what] (encC CS0 ++ T) (cQ T (.int (-5))) := by
  refine Ctr.of okX7_said rfl (Nat.le_of_ble_eq_true rfl) (run_sound okX7_said noCut 200 ?_)
  exact kH (c_isBelow k (CS0.1 134)) (by decide) (brB' (fun q => lf rfl) (fun q => absurd q.2 (Int32.not_lt.mpr q.1)))
theorem k_fit : Ans l 6 X sgX7_fitting [.ref 0] (encC CS0 ++ T) (-1) := by
  have q : Ans l 6 X sgX7_fitting [.ref 0] (encC CS0 ++ T) (fitF CS0 0) := c_fitting CS0_inv
  rw [show fitF CS0 0 = -1 by decide] at q
  exact q
theorem k_worlds : Ctr l 7 X sgX7_worlds [.ref 0] (encC CS0 ++ T) (cQ T (.long ALLW)) := by
  have q : AnsL l 7 X sgX7_worlds [.ref 0] (encC CS0 ++ T) (bitsF (fitF CS0 0)) := c_worlds CS0_inv
  exact q.weak (fun hp x hx => ⟨⟨CS0, hx.1⟩, hx.2.trans (some_long (by decide))⟩)
/-- whether one is sure; all that are -/
def sureF (x a : Int32) : Int32 := if a = 0 then 0 else if a &&& atF soInL x = a then 1 else if a &&& atF soInL x = 0 then 1 else 0
set_option maxRecDepth 100000 in
theorem c_isSure (hX : X[0]? = some soInL) (x a : Int32) : Ans l 1 X sgX7_isSure [.int x, .int a] hp (sureF x a) := by
  refine Ctr.of okX7_isSure rfl (Nat.le_of_ble_eq_true rfl) (run_sound okX7_isSure noCut 200 ?_)
  refine kH (c_at (xs := soInL) hX (by decide)) (by decide) (br (fun h => ⟨rfl, rfl, some_int (if_pos h).symm⟩) (fun h => br (fun h2 => ⟨rfl, rfl, some_int ((if_neg h).trans (if_pos h2)).symm⟩) (fun h2 => br (fun h3 => ⟨rfl, rfl, some_int ((if_neg h).trans ((if_neg h2).trans (if_pos h3))).symm⟩) (fun h3 => ⟨rfl, rfl, some_int ((if_neg h).trans ((if_neg h2).trans (if_neg h3))).symm⟩))))
def thF (a inAll : Int32) : Nat → Int32
  | 0 => 0
  | x + 1 => if sureF (nI x) a = 0 then thF a inAll x else if bI (¬ a &&& atF soInL (nI x) = 0) = inAll then thF a inAll x ||| ((1 : Int32) <<< (nI x &&& 31)) else thF a inAll x
def cNth (i : Nat) : Bool := Nat.beq i 4 || Nat.beq i 16
set_option maxRecDepth 100000 in
theorem c_thingsSure (hX : X[0]? = some soInL) (a inAll : Int32) : Ans l 2 X sgX7_thingsSure [.int a, .int inAll] hp (thF a inAll 5) := by
  refine Ctr.of okX7_thingsSure rfl (Nat.le_of_ble_eq_true rfl) (run_sound okX7_thingsSure cNth 200 ?_)
  have key : ∀ j, j ≤ 5 → ∀ x4, WP l (rmD 2 0 0) X sgX7_thingsSure kX7_thingsSure (fun h w => h = hp ∧ w = some (.int (thF a inAll 5))) 4 [some (.int a), some (.int inAll), some (.int (thF a inAll j)), some (.int (nI j)), x4] [] hp 0 0 := by
    refine down (fun x4 => ?_) (fun j hj ih x4 => ?_)
    · exact run_sound okX7_thingsSure cNth 200 (brT (Int32.le_refl _) ⟨rfl, rfl⟩)
    · have t16 : ∀ v, v = bI (¬ a &&& atF soInL (nI j) = 0) → WP l (rmD 2 0 0) X sgX7_thingsSure kX7_thingsSure (fun h w => h = hp ∧ w = some (.int (thF a inAll 5))) 16 [some (.int a), some (.int inAll), some (.int (thF a inAll j)), some (.int (nI j)), x4] [.int v] hp 0 0 := by
        intro v hv
        have ih := ih (some (.int v))
        refine run_sound okX7_thingsSure (fun i => Nat.beq i 4) 200 (kH (c_isSure hX _ _) (by decide) (br (fun h => ?_) (fun h => br (fun h2 => ?_) (fun h2 => ?_))))
        · have h : sureF (nI j) a = 0 := h
          rw [show thF a inAll (j + 1) = thF a inAll j from if_pos h, ← nI_1 j] at ih
          exact ih
        · have h : ¬ sureF (nI j) a = 0 := h
          have h2 : v = inAll := h2
          rw [show thF a inAll (j + 1) = thF a inAll j ||| ((1 : Int32) <<< (nI j &&& 31)) from (if_neg h).trans (if_pos (hv.symm.trans h2)), ← nI_1 j] at ih
          exact ih
        · have h : ¬ sureF (nI j) a = 0 := h
          have h2 : ¬ v = inAll := h2
          rw [show thF a inAll (j + 1) = thF a inAll j from (if_neg h).trans (if_neg (fun z => h2 (hv.trans z))), ← nI_1 j] at ih
          exact ih
      refine run_sound okX7_thingsSure cNth 200 (brF (ge_no (n := 5) rfl hj (by decide)) (kH (c_at (xs := soInL) hX (by decide)) (by decide) (br (fun h => t16 _ (bI_f (fun z => z h)).symm) (fun h => t16 _ (bI_t h).symm))))
  exact key 0 (Nat.zero_le _) none
theorem p3_no {v : Int32} (h : v.toInt < 0 ∨ 3 < v.toInt) : ¬ p3P v := by
  intro z
  have h1 := Int32.le_iff_toInt_le.mp z.1
  have h2 := Int32.le_iff_toInt_le.mp z.2
  have e0 : (0 : Int32).toInt = 0 := by decide
  have e3 : (3 : Int32).toInt = 3 := by decide
  omega
set_option maxRecDepth 100000 in
theorem k_behind (hX : X[0]? = some soInL) (n what : Int32) : Ctr l 6 X sgX7_behind [.ref 0, .int n, .int what] (encC CS0 ++ T) (cQ T (.int (behA n what))) := by
  refine Ctr.of okX7_behind rfl (Nat.le_of_ble_eq_true rfl) (run_sound okX7_behind (fun i => Nat.beq i 9) 200 ?_)
  refine br (fun h => lf (if_neg (fun z => absurd h (Int32.not_lt.mpr z.1))).symm) (fun h => br (fun h2 => ?_) (fun h2 => lf (if_neg (fun z => h2 z.2)).symm))
  have q : zeP n := ⟨Int32.not_lt.mp h, h2⟩
  have e : behA n what = if p3P what then (if what = 0 then 32 else 0) else -7 := if_pos q
  rw [e]
  have hn := zeP_0 q
  subst hn
  have hf : Ans l 5 X sgX7_fittingFirst [.ref 0, .int 0] (encC CS0 ++ T) (-1) := by
    have q : Ans l 5 X sgX7_fittingFirst [.ref 0, .int (nI 0)] (encC CS0 ++ T) (fitF CS0 0) := c_fittingFirst CS0_len (m := 0) (by decide)
    rw [show fitF CS0 0 = -1 by decide] at q
    exact q
  refine run_sound okX7_behind noCut 200 (kH hf (by decide) ?_)
  refine And.intro (fun h => lf (if_neg (p3_no h)).symm) (And.intro (fun h => ?_) (And.intro (fun h => ?_) (And.intro (fun h => ?_) (And.intro (fun h => ?_) trivial))))
  · subst h; exact kH (c_bitCount _) (by decide) (lf (by decide))
  · subst h; exact kH (c_thingsSure hX _ _) (by decide) (lf (by decide))
  · subst h; exact kH (c_thingsSure hX _ _) (by decide) (lf (by decide))
  · subst h; exact kH (c_worldNumber _ _) (by decide) (lf (by decide))
theorem k_cannot : Ctr l 5 X sgX7_cannot [.ref 0] (encC CS0 ++ T) (cQ T (.int (-1))) := Ctr.cq (c_cannot CS0_inv) (by decide)
theorem k_lies : Ctr l 7 X sgX7_lies [.ref 0] (encC CS0 ++ T) (cQ T (.int 0)) := Ctr.cq (c_lies CS0_inv) (by decide)
theorem p1_iff {what : Int32} : (0 ≤ what ∧ what < 2) ↔ p1P what := and_congr_right (fun _ => ltle (by decide))
theorem k_least (what : Int32) : Ctr l 6 X sgX7_least [.ref 0, .int what] (encC CS0 ++ T) (cQ T (.int (twoA what 0 (-2)))) := by
  refine Ctr.cq (c_least CS0_inv what) ?_
  unfold leastA twoA
  rw [show leastF CS0 0 32 = 0 by decide +kernel]
  by_cases q : p1P what
  · rw [if_neg (fun z => z (p1_iff.mpr q)), if_neg (show ¬ lawF CS0 = 0 by decide), if_pos q]
    rcases in01 q with rfl | rfl <;> decide
  · rw [if_pos (fun z => q (p1_iff.mp z)), if_neg q]
theorem k_mad (what : Int32) : Ctr l 6 X sgX7_mad [.ref 0, .int what] (encC CS0 ++ T) (cQ T (.int (twoA what 0 (-2)))) := by
  refine Ctr.cq (c_mad CS0_inv what) ?_
  unfold madA twoA
  rw [show madL CS0 0 (2 ^ 0) = 0 by decide +kernel]
  by_cases q : p1P what
  · rw [if_neg (fun z => z (p1_iff.mpr q)), if_pos q]
    rcases in01 q with rfl | rfl <;> decide
  · rw [if_pos (fun z => q (p1_iff.mp z)), if_neg q]
set_option maxRecDepth 100000 in
theorem k_habit (s w part : Int32) : Ctr l 2 X sgX7_habit [.ref 0, .int s, .int w, .int part] (encC CS0 ++ T) (cQ T (.long NOL)) := by
  refine Ctr.of okX7_habit rfl (Nat.le_of_ble_eq_true rfl) (run_sound okX7_habit noCut 200 ?_)
  exact kH (k_S s) (by decide) (brT rfl ⟨rfl, lfL rfl⟩)
set_option maxRecDepth 100000 in
theorem k_kinds (s w : Int32) : Ctr l 2 X sgX7_kinds [.ref 0, .int s, .int w] (encC CS0 ++ T) (cQ T (.int (-5))) := by
  refine Ctr.of okX7_kinds rfl (Nat.le_of_ble_eq_true rfl) (run_sound okX7_kinds noCut 200 ?_)
  exact kH (k_S s) (by decide) (brT rfl (lf rfl))
theorem k_ask (what : Int32) : Ctr l 7 X sgX7_ask [.ref 0, .int what] (encC CS0 ++ T) (cQ T (.int (askA3 what))) := by
  refine (c_ask CS0_inv what).weak ?_
  rintro hp w ⟨⟨B, rfl⟩, rfl⟩
  refine lf ?_
  have e : (0 ≤ what ∧ what < 3) ↔ p2P what := and_congr_right (fun _ => ltle (by decide))
  unfold askA3
  by_cases q : p2P what
  · rw [if_neg (fun z => z (e.mpr q)), if_pos q]
    rfl
  · rw [if_pos (fun z => q (e.mp z)), if_neg q]
set_option maxRecDepth 100000 in
theorem k_two (what : Int32) : Ctr l 7 X sgX7_two [.ref 0, .int what] (encC CS0 ++ T) (cQ T (.int (twoA what (-1) (-2)))) := by
  refine Ctr.of okX7_two rfl (Nat.le_of_ble_eq_true rfl) (run_sound okX7_two noCut 200 ?_)
  exact kH (k_B what 2 1 (by decide)) (by decide) (brB' (fun q => lf (if_neg q).symm) (fun q => brT rfl (lf (if_pos q).symm)))
set_option maxRecDepth 100000 in
theorem k_parts (s t what : Int32) : Ctr l 2 X sgX7_parts [.ref 0, .int s, .int t, .int what] (encC CS0 ++ T) (cQ T (.long NOL)) := by
  refine Ctr.of okX7_parts rfl (Nat.le_of_ble_eq_true rfl) (run_sound okX7_parts noCut 200 ?_)
  exact kH (k_S s) (by decide) (brT rfl ⟨rfl, lfL rfl⟩)
set_option maxRecDepth 100000 in
theorem k_hide (s t what : Int32) : Ctr l 2 X sgX7_hide [.ref 0, .int s, .int t, .int what] (encC CS0 ++ T) (cQ T (.int (-5))) := by
  refine Ctr.of okX7_hide rfl (Nat.le_of_ble_eq_true rfl) (run_sound okX7_hide noCut 200 ?_)
  exact kH (k_S s) (by decide) (brT rfl (lf rfl))
end CFR2
