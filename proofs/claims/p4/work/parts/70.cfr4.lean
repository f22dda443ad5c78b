/-! THE CLASS's sheets made, strangers, images, tape, over a new one -/
section CFR4
variable {l : Launch} {X : List (List Int32)} {S : CS} {T : AH} {hp : AH}
set_option maxRecDepth 100000 in
theorem c_make (hL : CLen S) (s sort n : Int32) : Ctr l 1 X sgX3_make [.ref 21, .int s, .int sort, .int n] (encC S ++ T) (fun h w => (∃ c : List Int32, c.length = (S.2 24).length ∧ h = encC (cR (cR (cR S 22 (putF (S.2 22) s sort)) 23 (putF (S.2 23) s n)) 24 c) ++ T) ∧ w = none) := by
  have h22 := Nat.lt_of_le_of_lt (hL 22) (show 1000 < 2 ^ 31 by decide)
  have h23 := Nat.lt_of_le_of_lt (hL 23) (show 1000 < 2 ^ 31 by decide)
  have h24 := Nat.lt_of_le_of_lt (hL 24) (show 1000 < 2 ^ 31 by decide)
  refine Ctr.of okX3_make rfl (Nat.le_of_ble_eq_true rfl) (run_sound okX3_make (fun i => Nat.beq i 12) 200 ?_)
  have key : ∀ j, j ≤ 40 → ∀ c : List Int32, c.length = (S.2 24).length → WP l (rmD 1 0 0) X sgX3_make kX3_make (fun h w => (∃ c : List Int32, c.length = (S.2 24).length ∧ h = encC (cR (cR (cR S 22 (putF (S.2 22) s sort)) 23 (putF (S.2 23) s n)) 24 c) ++ T) ∧ w = none) 12 [some (.ref 21), some (.int s), some (.int sort), some (.int n), some (.int (nI j))] [] (encC (cR (cR (cR S 22 (putF (S.2 22) s sort)) 23 (putF (S.2 23) s n)) 24 c) ++ T) 0 0 := by
    refine down (fun c hc => ?_) (fun j hj ih c hc => ?_)
    · exact run_sound okX3_make (fun i => Nat.beq i 12) 200 (brT (Int32.le_refl _) ⟨rfl, ⟨c, hc, rfl⟩, rfl⟩)
    · refine run_sound okX3_make (fun i => Nat.beq i 12) 200 (brF (ge_no (n := 40) rfl hj (by decide)) (kH (c_put (xs := c) rfl rfl (by rw [hc]; exact h24)) (by decide) ?_))
      have ih := ih (putF c (s * Int32.ofInt 40 + nI j) 0) (putF_len.trans hc)
      rw [← nI_1 j] at ih
      exact ih
  exact kH (c_put (xs := S.2 22) rfl rfl h22) (by decide) (kH (c_put (xs := S.2 23) rfl rfl h23) (by decide) (key 0 (Nat.zero_le _) (S.2 24) rfl))
set_option maxRecDepth 100000 in
theorem k_film (s : Int32) : Ctr l 2 X sgX7_film [.ref 0, .int s] (encC CS0 ++ T) (cQ T (.int (filA s))) := by
  refine Ctr.of okX7_film rfl (Nat.le_of_ble_eq_true rfl) (run_sound okX7_film noCut 200 ?_)
  refine kH (k_B s 4 3 (by decide)) (by decide) (brB' (fun q => lf (if_neg q).symm) (fun q => ⟨1, _, by decide, c_make CS0_len _ _ _, ?_⟩))
  rintro hp' w ⟨⟨c, -, rfl⟩, rfl⟩
  exact brT (show CS0.1 134 ≤ 0 by decide) (lf (if_pos q).symm)
set_option maxRecDepth 100000 in
theorem c_sheet (hL : CLen S) (s sort n : Int32) : Ctr l 2 X sgX7_sheet [.ref 0, .int s, .int sort, .int n] (encC S ++ T) (cQ T (.int (shtA s sort n))) := by
  refine Ctr.of okX7_sheet rfl (Nat.le_of_ble_eq_true rfl) (run_sound okX7_sheet noCut 200 ?_)
  refine kH (k_B s 4 3 (by decide)) (by decide) (brB' (fun q => lf (if_neg (fun z => q z.1)).symm) (fun q => br (fun h1 => lf (if_neg (fun z => absurd h1 (Int32.not_lt.mpr z.2.1.1))).symm) (fun h1 => br (fun h2 => ?_) (fun h2 => lf (if_neg (fun z => h2 z.2.1.2)).symm))))
  have q2 : m2P sort := ⟨Int32.not_lt.mp h1, h2⟩
  refine br (fun h3 => ⟨1, _, by decide, c_make hL _ _ _, ?_⟩) (fun h3 => br (fun h4 => br (fun h5 => ⟨1, _, by decide, c_make hL _ _ _, ?_⟩) (fun h5 => lf ?_)) (fun h4 => lf ?_))
  · rintro hp' w ⟨⟨c, -, rfl⟩, rfl⟩
    exact lf ((if_pos ⟨q, q2, Or.inl h3⟩).trans (if_neg (fun z => z.1 h3))).symm
  · rintro hp' w ⟨⟨c, -, rfl⟩, rfl⟩
    exact lf ((if_pos ⟨q, q2, Or.inr h4⟩).trans (if_neg (fun z => absurd z.2 (Int32.not_lt.mpr h5)))).symm
  · exact ((if_pos ⟨q, q2, Or.inr h4⟩).trans (if_pos ⟨h3, Int32.not_le.mp h5⟩)).symm
  · exact (if_neg (fun z => z.2.2.elim h3 h4)).symm
theorem saL_0 (S : CS) (truth : Int32) (B : BQ) (lot : Int64) : (saL S 1 0 0 truth 6 0 B (-1) lot).2 = 0 := by
  rw [saL, if_neg (by decide)]
  exact congrArg Prod.snd (if_pos rfl)
theorem k_stranger (hI : CInv S 1 0 0) (seed : Int32) : Ctr l 5 X sgX7_strangerAsks [.ref 0, .int seed, .int (-1)] (encC S ++ T) (fun h w => (∃ B, h = encC (setB S B) ++ T) ∧ w = some (.int 0)) := by
  refine (c_strangerAsks hI seed (-1) (by decide)).weak (fun hp w hw => ⟨⟨_, hw.1⟩, hw.2.trans (some_int ?_)⟩)
  unfold saA
  rw [saL_0]
  rfl
set_option maxRecDepth 100000 in
theorem k_drawn (seed : Int32) : Ctr l 7 X sgX7_drawn [.ref 0, .int seed] (encC CS0 ++ T) (cQ T (.int (drwA seed))) := by
  refine Ctr.of okX7_drawn rfl (Nat.le_of_ble_eq_true rfl) (run_sound okX7_drawn noCut 200 ?_)
  refine br (fun h1 => lf (if_neg (fun z => absurd h1 (Int32.not_lt.mpr z.1))).symm) (fun h1 => br (fun h2 => ?_) (fun h2 => lf (if_neg (fun z => h2 z.2)).symm))
  refine kH k_fit (by decide) (brF (by decide) ⟨5, _, by decide, k_stranger CS0_inv seed, ?_⟩)
  rintro hp' w ⟨⟨B, rfl⟩, rfl⟩
  exact lf (if_pos ⟨Int32.not_lt.mp h1, h2⟩).symm
theorem low_0 {n : Nat} (h1 : 1 ≤ n) (hn : n ≤ 10) {part : Int32} (hp : p1P part) : lowF 0 (nI n) part = part.toInt64 := by
  have a : ∀ n : Fin 11, 1 ≤ n.val → lowF 0 (nI n.val) 0 = Int32.toInt64 0 ∧ lowF 0 (nI n.val) 1 = Int32.toInt64 1 := by decide +kernel
  have b := a ⟨n, by omega⟩ h1
  rcases in01 hp with rfl | rfl
  · exact b.1
  · exact b.2
set_option maxRecDepth 100000 in
theorem k_mean (seed seeds part : Int32) : Ctr l 7 X sgX7_mean [.ref 0, .int seed, .int seeds, .int part] (encC CS0 ++ T) (cQ T (.long (mnA seed seeds part))) := by
  refine Ctr.of okX7_mean rfl (Nat.le_of_ble_eq_true rfl) (run_sound okX7_mean (fun i => Nat.beq i 30) 200 ?_)
  refine br (fun h1 => ⟨rfl, lfL (if_neg (fun z => absurd h1 (Int32.not_lt.mpr z.1.1))).symm⟩) (fun h1 => br (fun h2 => ?_) (fun h2 => ⟨rfl, lfL (if_neg (fun z => h2 z.1.2)).symm⟩))
  refine br (fun h3 => ⟨rfl, lfL (if_neg (fun z => absurd h3 (Int32.not_lt.mpr z.2.1.1))).symm⟩) (fun h3 => br (fun h4 => ⟨rfl, lfL (if_neg (fun z => absurd h4 (Int32.not_lt.mpr z.2.1.2))).symm⟩) (fun h4 => ?_))
  refine kH (k_B part 2 1 (by decide)) (by decide) (brB' (fun q3 => ⟨rfl, lfL (if_neg (fun z => q3 z.2.2)).symm⟩) (fun q3 => ?_))
  have q2 : (1 : Int32) ≤ seeds ∧ seeds ≤ 10 := ⟨Int32.not_lt.mp h3, Int32.not_lt.mp h4⟩
  rw [show mnA seed seeds part = part.toInt64 from if_pos ⟨⟨Int32.not_lt.mp h1, h2⟩, q2, q3⟩]
  obtain ⟨n, hn, rfl⟩ := in110 q2
  have hn1 : 1 ≤ n := by
    have z := Int32.le_iff_toInt_le.mp q2.1
    rw [nI_toInt (by omega)] at z
    have e1 : (1 : Int32).toInt = 1 := by decide
    omega
  have key : ∀ j, j ≤ n → ∀ S : CS, CInv S 1 0 0 → WP l (rmD 7 0 0) X sgX7_mean kX7_mean (cQ T (.long part.toInt64)) 30 [some (.ref 0), some (.int seed), some (.int (nI n)), some (.int part), some (.int (-1)), some (.int 0), some (.int (nI j))] [] (encC S ++ T) 0 0 := by
    refine down (fun S hS => ?_) (fun j hj ih S hS => ?_)
    · exact run_sound okX7_mean (fun i => Nat.beq i 30) 200 (brT (Int32.le_refl _) (kH (c_inLowestTerms _ _ _) (by decide) ⟨rfl, lfL (low_0 hn1 hn q3)⟩))
    · refine run_sound okX7_mean (fun i => Nat.beq i 30) 200 (brF (ge_no (n := n) rfl hj (by omega)) ⟨5, _, by decide, k_stranger hS _, ?_⟩)
      rintro hp' w ⟨⟨B, rfl⟩, rfl⟩
      have ih := ih _ (hS.setB B)
      rw [← nI_1 j] at ih
      exact ih
  exact kH k_fit (by decide) (brF (by decide) (key 0 (Nat.zero_le _) CS0 CS0_inv))
set_option maxRecDepth 100000 in
set_option maxHeartbeats 1000000 in
theorem c_keep (hL : CLen S) : Ctr l 2 X sgX4_becomeLike [.ref 17, .ref 13] (encC S ++ T) (fun h w => (∃ a b c : List Int32, h = encC (cN (cN (cN (cR (cR (cR S 18 a) 19 b) 20 c) 173 (S.1 133)) 174 (S.1 134)) 175 (S.1 135)) ++ T) ∧ w = none) := by
  have hl : ∀ k, (S.2 k).length < 2 ^ 31 := fun k => Nat.lt_of_le_of_lt (hL k) (by decide)
  refine Ctr.of okX4_becomeLike rfl (Nat.le_of_ble_eq_true rfl) (run_sound okX4_becomeLike (fun i => Nat.beq i 5 || Nat.beq i 23) 200 ?_)
  have k2 : ∀ j, j ≤ 36 → ∀ a b c : List Int32, c.length < 2 ^ 31 → WP l (rmD 2 0 0) X sgX4_becomeLike kX4_becomeLike (fun h w => (∃ a b c : List Int32, h = encC (cN (cN (cN (cR (cR (cR S 18 a) 19 b) 20 c) 173 (S.1 133)) 174 (S.1 134)) 175 (S.1 135)) ++ T) ∧ w = none) 23 [some (.ref 17), some (.ref 13), some (.int (nI j))] [] (encC (cR (cR (cR S 18 a) 19 b) 20 c) ++ T) 0 0 := by
    refine down (fun a b c hc => ?_) (fun j hj ih a b c hc => ?_)
    · exact run_sound okX4_becomeLike (fun i => Nat.beq i 5 || Nat.beq i 23) 200 (brT (Int32.le_refl _) (And.intro trivial (And.intro trivial (And.intro trivial ⟨rfl, ⟨a, b, c, rfl⟩, rfl⟩))))
    · refine run_sound okX4_becomeLike (fun i => Nat.beq i 5 || Nat.beq i 23) 200 (brF (ge_no (n := 36) rfl hj (by decide)) (kH (c_at (xs := S.2 16) rfl (hl 16)) (by decide) (kH (c_put (xs := c) rfl rfl hc) (by decide) ?_)))
      have ih := ih a b (putF c (nI j) (atF (S.2 16) (nI j))) (by rw [putF_len]; exact hc)
      rw [← nI_1 j] at ih
      exact ih
  have k1 : ∀ j, j ≤ 5 → ∀ a b : List Int32, a.length ≤ 1000 → b.length ≤ 1000 → WP l (rmD 2 0 0) X sgX4_becomeLike kX4_becomeLike (fun h w => (∃ a b c : List Int32, h = encC (cN (cN (cN (cR (cR (cR S 18 a) 19 b) 20 c) 173 (S.1 133)) 174 (S.1 134)) 175 (S.1 135)) ++ T) ∧ w = none) 5 [some (.ref 17), some (.ref 13), some (.int (nI j))] [] (encC (cR (cR S 18 a) 19 b) ++ T) 0 0 := by
    refine down (fun a b ha hb => ?_) (fun j hj ih a b ha hb => ?_)
    · exact run_sound okX4_becomeLike (fun i => Nat.beq i 5 || Nat.beq i 23) 200 (brT (Int32.le_refl _) (k2 0 (Nat.zero_le _) a b (S.2 20) (hl 20)))
    · have hL' : CLen (cR (cR S 18 a) 19 b) := by
        intro k
        show (uf (uf S.2 18 a) 19 b k).length ≤ 1000
        unfold uf
        split
        · exact hb
        · split
          · exact ha
          · exact hL k
      refine run_sound okX4_becomeLike (fun i => Nat.beq i 5 || Nat.beq i 23) 200 (brF (ge_no (n := 5) rfl hj (by decide)) (kH (c_at (xs := S.2 14) rfl (hl 14)) (by decide) (kH (c_at (xs := S.2 15) rfl (hl 15)) (by decide) (kH (c_become17 hL' _ _ _) (by decide) ?_))))
      have ih := ih (putF a (nI j) (atF (S.2 14) (nI j))) (putF b (nI j) (atF (S.2 15) (nI j))) (by rw [putF_len]; exact ha) (by rw [putF_len]; exact hb)
      rw [← nI_1 j] at ih
      exact ih
  exact k1 0 (Nat.zero_le _) (S.2 18) (S.2 19) (hL 18) (hL 19)
set_option maxRecDepth 100000 in
theorem k_image : Ctr l 3 X sgX7_image [.ref 0] (encC CS0 ++ T) (cQ T (.int 0)) := by
  refine Ctr.of okX7_image rfl (Nat.le_of_ble_eq_true rfl) (run_sound okX7_image noCut 200 ⟨2, _, by decide, c_keep CS0_len, ?_⟩)
  rintro hp' w ⟨⟨a, b, c, rfl⟩, rfl⟩
  exact And.intro (Or.inr rfl) ⟨⟨cN (cN (cN (cN (cR (cR (cR CS0 18 a) 19 b) 20 c) 173 (CS0.1 133)) 174 (CS0.1 134)) 175 (CS0.1 135)) 8 1, rfl⟩, rfl⟩
set_option maxRecDepth 100000 in
theorem k_back : Ctr l 3 X sgX7_back [.ref 0] (encC CS0 ++ T) (cQ T (.int (-3))) := by
  refine Ctr.of okX7_back rfl (Nat.le_of_ble_eq_true rfl) (run_sound okX7_back noCut 200 ?_)
  exact brT rfl (lf rfl)
set_option maxRecDepth 100000 in
theorem c_tape (hL : CLen S) (v : Int32) (h : S.1 11 < 160) : Ctr l 1 X sgX6_append [.ref 1, .int v] (encC S ++ T) (fun h w => h = encC (cN (cR S 2 (putF (S.2 2) (S.1 11) v)) 11 (S.1 11 + 1)) ++ T ∧ w = none) := by
  refine Ctr.of okX6_append rfl (Nat.le_of_ble_eq_true rfl) (run_sound okX6_append noCut 200 ?_)
  exact brT h (kH (c_put (xs := S.2 2) rfl rfl (Nat.lt_of_le_of_lt (hL 2) (by decide))) (by decide) (And.intro rfl (And.intro trivial ⟨rfl, rfl, rfl⟩)))
def cNg (i : Nat) : Bool := Nat.beq i 36 || Nat.beq i 61
theorem feeA {n a b c d e : Int32} {S : CS} (h : ¬ feeP n a b c d e) : (∃ S', (encC S ++ T) = encC S' ++ T) ∧ ((feeP n a b c d e → some (Value.int (-2)) = some (Value.int n)) ∧ (¬ feeP n a b c d e → some (Value.int (-2)) = some (.int (-2)))) := ⟨⟨S, rfl⟩, fun z => absurd z h, fun _ => rfl⟩
set_option maxRecDepth 100000 in
set_option maxHeartbeats 1000000 in
theorem k_feed (n a b c d e : Int32) : Ctr l 2 X sgX7_feed [.ref 0, .int n, .int a, .int b, .int c, .int d, .int e] (encC CS0 ++ T) (fun h w => (∃ S', h = encC S' ++ T) ∧ ((feeP n a b c d e → w = some (.int n)) ∧ (¬ feeP n a b c d e → w = some (.int (-2))))) := by
  refine Ctr.of okX7_feed rfl (Nat.le_of_ble_eq_true rfl) (run_sound okX7_feed cNg 200 ?_)
  refine br (fun h1 => feeA (fun z => absurd h1 (Int32.not_lt.mpr z.1.1))) (fun h1 => br (fun h2 => ?_) (fun h2 => feeA (fun z => h2 z.1.2)))
  have q : (1 : Int32) ≤ n ∧ n ≤ 5 := ⟨Int32.not_lt.mp h1, h2⟩
  refine kH (c_isByte _) (by decide) (brB' (fun q => feeA (fun z => q z.2.1)) (fun qa => ?_))
  refine kH (c_isByte _) (by decide) (brB' (fun q => feeA (fun z => q z.2.2.1)) (fun qb => ?_))
  refine kH (c_isByte _) (by decide) (brB' (fun q => feeA (fun z => q z.2.2.2.1)) (fun qc => ?_))
  refine kH (c_isByte _) (by decide) (brB' (fun q => feeA (fun z => q z.2.2.2.2.1)) (fun qd => ?_))
  refine kH (c_isByte _) (by decide) (brB' (fun q => feeA (fun z => q z.2.2.2.2.2)) (fun qe => ?_))
  have yes : feeP n a b c d e := ⟨q, qa, qb, qc, qd, qe⟩
  obtain ⟨m, hm, rfl⟩ : ∃ m : Nat, m ≤ 5 ∧ n = nI m := by
    have h1 := Int32.le_iff_toInt_le.mp q.1
    have h2 := Int32.le_iff_toInt_le.mp q.2
    have e1 : (1 : Int32).toInt = 1 := by decide
    have e5 : (5 : Int32).toInt = 5 := by decide
    refine ⟨n.toInt.toNat, by omega, Int32.toInt_inj.mp ?_⟩
    rw [nI_toInt (by omega)]
    omega
  refine brT ?_ ?_
  · show (0 : Int32) + nI m ≤ Int32.ofInt 160
    rw [Int32.zero_add]
    exact nI_le (b := 160) (by omega) (by decide)
  have key : ∀ j, j ≤ m → ∀ tp : List Int32, tp.length = 160 → WP l (rmD 2 0 0) X sgX7_feed kX7_feed (fun h w => (∃ S', h = encC S' ++ T) ∧ ((feeP (nI m) a b c d e → w = some (.int (nI m))) ∧ (¬ feeP (nI m) a b c d e → w = some (.int (-2))))) 36 [some (.ref 0), some (.int (nI m)), some (.int a), some (.int b), some (.int c), some (.int d), some (.int e), some (.int (nI j))] [] (encC (cN (cR CS0 2 tp) 11 (nI j)) ++ T) 0 0 := by
    refine down (fun tp ht => ?_) (fun j hj ih tp ht => ?_)
    · exact run_sound okX7_feed cNg 200 (brT (Int32.le_refl _) ⟨⟨_, rfl⟩, fun _ => rfl, fun z => absurd yes z⟩)
    · have t61 : ∀ x, WP l (rmD 2 0 0) X sgX7_feed kX7_feed (fun h w => (∃ S', h = encC S' ++ T) ∧ ((feeP (nI m) a b c d e → w = some (.int (nI m))) ∧ (¬ feeP (nI m) a b c d e → w = some (.int (-2))))) 61 [some (.ref 0), some (.int (nI m)), some (.int a), some (.int b), some (.int c), some (.int d), some (.int e), some (.int (nI j))] [.int x, .ref 1] (encC (cN (cR CS0 2 tp) 11 (nI j)) ++ T) 0 0 := by
        intro x
        have hL' : CLen (cN (cR CS0 2 tp) 11 (nI j)) := by
          intro k
          show (uf CS0.2 2 tp k).length ≤ 1000
          unfold uf
          split
          · rw [ht]; decide
          · exact CS0_len k
        have hc : Ctr l 1 X sgX6_append [.ref 1, .int x] (encC (cN (cR CS0 2 tp) 11 (nI j)) ++ T) (fun h w => h = encC (cN (cR CS0 2 (putF tp (nI j) x)) 11 (nI j + 1)) ++ T ∧ w = none) :=
          c_tape hL' x (show nI j < 160 from nI_lt (b := 160) (by omega) (by decide))
        refine run_sound okX7_feed cNg 200 (kH hc (by decide) ?_)
        have ih := ih (putF tp (nI j) x) (putF_len.trans ht)
        rw [← nI_1 j] at ih
        exact ih
      exact run_sound okX7_feed cNg 200 (brF (ge_no (n := m) rfl hj (by omega)) (br (fun _ => t61 _) (fun _ => br (fun _ => t61 _) (fun _ => br (fun _ => t61 _) (fun _ => br (fun _ => t61 _) (fun _ => t61 _))))))
  exact key 0 (Nat.zero_le _) (z32 160) List.length_replicate
set_option maxRecDepth 100000 in
theorem k_advance : Ctr l 1 X sgX6_advance [.ref 1] (encC CS0 ++ T) (fun h w => h = encC CS0 ++ T ∧ w = none) := by
  refine Ctr.of okX6_advance rfl (Nat.le_of_ble_eq_true rfl) (run_sound okX6_advance noCut 200 ?_)
  exact And.intro trivial (brF (by decide) (brT (by decide) (And.intro trivial (brF (by decide) (And.intro trivial (And.intro trivial ⟨rfl, rfl, rfl⟩))))))
set_option maxRecDepth 100000 in
theorem k_start : Ctr l 2 X sgX6_start [.ref 1] (encC CS0 ++ T) (fun h w => h = encC CS0 ++ T ∧ w = none) := by
  refine Ctr.of okX6_start rfl (Nat.le_of_ble_eq_true rfl) (run_sound okX6_start noCut 200 ?_)
  exact And.intro trivial (kH k_advance (by decide) ⟨rfl, rfl, rfl⟩)
set_option maxRecDepth 100000 in
theorem k_clear : Ctr l 0 X sgX0_clear [.ref 3] (encC CS0 ++ T) (fun h w => h = encC CS0 ++ T ∧ w = none) := by
  refine Ctr.of okX0_clear rfl (Nat.le_of_ble_eq_true rfl) (run_sound okX0_clear noCut 200 ?_)
  exact And.intro trivial ⟨rfl, rfl, rfl⟩
set_option maxRecDepth 100000 in
theorem k_readToken (v : Int32) (h : ¬ 0 = v) : Ans l 2 X sgX1_readToken [.ref 8, .int v] (encC CS0 ++ T) 0 := by
  refine Ctr.of okX1_readToken rfl (Nat.le_of_ble_eq_true rfl) (run_sound okX1_readToken noCut 200 ?_)
  exact brF h ⟨rfl, rfl, rfl⟩
set_option maxRecDepth 100000 in
theorem k_readText : Ans l 3 X sgX1_readText [.ref 8] (encC CS0 ++ T) 0 := by
  refine Ctr.of okX1_readText rfl (Nat.le_of_ble_eq_true rfl) (run_sound okX1_readText noCut 200 ?_)
  exact kH k_start (by decide) (kH k_clear (by decide) (brF (by decide) (kH (k_readToken _ (by decide)) (by decide) (brT rfl ⟨rfl, rfl, rfl⟩))))
set_option maxRecDepth 100000 in
theorem k_text : Ctr l 4 X sgX7_text [.ref 0] (encC CS0 ++ T) (cQ T (.int (-100))) := by
  refine Ctr.of okX7_text rfl (Nat.le_of_ble_eq_true rfl) (run_sound okX7_text noCut 200 ?_)
  exact brT (by decide) (kH k_readText (by decide) (And.intro trivial (brT rfl ⟨⟨CS0, rfl⟩, some_int (by decide)⟩)))
end CFR4
