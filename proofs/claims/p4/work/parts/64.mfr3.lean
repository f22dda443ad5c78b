/-! THE REFERENCE's texts, sheets, images, strangers, over a new one -/
section MFR3
variable {l : Launch} {X : List (List Int32)} {S : CS} {M : MS} {hp : AH}
def samA (t u what : Int32) : Int32 := if zeP t ∧ zeP u then (if p1P what then 1 else -7) else -5
set_option maxRecDepth 100000 in
theorem f_same (h : FM M) (t u what : Int32) : Ctr l 6 X sgX8_same [.ref 27, .int t, .int u, .int what] (mk S M) (pA (.int (samA t u what))) := by
  refine Ctr.of okX8_same rfl (Nat.le_of_ble_eq_true rfl) (run_sound okX8_same noCut 100 ?_)
  refine kH (f_T h t) (by decide) (brB' (fun q => some_int (if_neg (fun z => q z.1)).symm) (fun q => kH (f_T h u) (by decide) (brB' (fun q2 => some_int (if_neg (fun z => q2 z.2)).symm) (fun q2 => kH (m_in _ _ _) (by decide) (brB' (fun q3 => some_int ((if_pos ⟨q, q2⟩).trans (if_neg q3)).symm) (fun q3 => ⟨5, _, by decide, f_worldsNow h, ?_⟩))))))
  rintro hp' w ⟨⟨z, hz, hzm, rfl⟩, rfl⟩
  have e : (1 : Int32) = samA t u what := ((if_pos ⟨q, q2⟩).trans (if_pos q3)).symm
  refine kH ((h.sc hz).once hzm (zeP_0 q)) (by decide) (kH ((h.sc hz).once hzm (zeP_0 q2)) (by decide) (br (fun _ => brC (fun _ => some_int e) (fun z => absurd (by decide) z)) (fun _ => brC (fun _ => some_int e) (fun z => absurd (by decide) z))))
def claA (t : Int32) : Int32 := if zeP t then 1 else -5
set_option maxRecDepth 100000 in
theorem f_claims (h : FM M) (t : Int32) : Ctr l 6 X sgX8_claims [.ref 27, .int t] (mk S M) (pA (.int (claA t))) := by
  have h9 := h.n9
  refine Ctr.of okX8_claims rfl (Nat.le_of_ble_eq_true rfl) (run_sound okX8_claims noCut 200 ?_)
  refine kH (f_T h t) (by decide) (brB' (fun q => some_int (if_neg q).symm) (fun q => ⟨5, _, by decide, f_worldsNow h, ?_⟩))
  rintro hp' w ⟨⟨z, hz, hzm, rfl⟩, rfl⟩
  have e : (1 : Int32) = claA t := (if_pos q).symm
  exact kH ((h.sc hz).once hzm (zeP_0 q)) (by decide) (brF (by show ¬ M.1 9 ≤ 0; rw [h9]; decide) (kH ((h.sc hz).once hzm rfl) (by decide) (brC (fun _ => brT (by show M.1 9 ≤ 0 + Int32.ofInt 1; rw [h9]; decide) (some_int e)) (fun z => absurd (by decide) z))))
set_option maxRecDepth 100000 in
theorem f_settles (h : FM M) (hm : M.2.2.1.getD 0 0 = ALLW) (some_ : Int32) : Ans l 1 X sgX8_settles [.ref 27, .long ALLW, .int some_] (mk S M) 0 := by
  have h9 := h.n9
  refine Ctr.of okX8_settles rfl (Nat.le_of_ble_eq_true rfl) (run_sound okX8_settles (fun i => Nat.beq i 56) 300 ?_)
  have fin : WP l (rmD 1 0 0) X sgX8_settles kX8_settles (fun h w => h = mk S M ∧ w = some (.int 0)) 56 [some (.ref 27), some (.long ALLW), none, some (.int some_), some (.int (0 + Int32.ofInt 1)), some (.int ((0 + Int32.ofInt 1) / Int32.ofInt 32)), some (.int ((0 + Int32.ofInt 1) - (0 + Int32.ofInt 1) / Int32.ofInt 32 * Int32.ofInt 32)), some (.int 0), some (.int 0)] [] (mk S M) 0 0 :=
    run_sound okX8_settles noCut 300 (brT (by show M.1 9 ≤ 0 + Int32.ofInt 1; rw [h9]; decide) (brT rfl ⟨rfl, rfl, rfl⟩))
  refine brF (by decide) (And.intro (by decide) (And.intro (by decide) (brT (by decide) (brF (by show ¬ M.1 9 ≤ 0; rw [h9]; decide) (brF (by decide) (brF (by decide) ?_))))))
  refine brF (by decide) (And.intro (by decide) (And.intro (by decide) (brF (by decide) (kH (m_has _ _) (by decide) (brB' (fun z => absurd (by decide) z) (fun _ => kH (m_has _ _) (by decide) (brB' (fun z => absurd (by decide) z) (fun _ => ?_))))))))
  refine brF (by show ¬ M.1 9 ≤ 0; rw [h9]; decide) (brT rfl (br (fun _ => ?_) (fun _ => fin)))
  exact kH (h.once hm rfl) (by decide) (kH (m_has _ _) (by decide) (kH (h.once hm rfl) (by decide) (kH (m_has _ _) (by decide) (brT (by decide) fin))))
set_option maxRecDepth 100000 in
theorem f_settle (h : FM M) (what : Int32) : Ctr l 6 X sgX8_settle [.ref 27, .int what] (mk S M) (pA (.int (twoA what (-1) (-2)))) := by
  have h9 := h.n9
  refine Ctr.of okX8_settle rfl (Nat.le_of_ble_eq_true rfl) (run_sound okX8_settle noCut 300 ?_)
  refine kH (m_in _ _ _) (by decide) (brB' (fun q => some_int (if_neg q).symm) (fun q => ⟨5, _, by decide, f_worldsNow h, ?_⟩))
  rintro hp' w ⟨⟨z, hz, hzm, rfl⟩, rfl⟩
  have e : (-1 : Int32) = twoA what (-1) (-2) := (if_pos q).symm
  refine brF (by show ¬ (1 : Int32) <<< (M.1 9 &&& 31) ≤ 0; rw [h9]; decide) (brT rfl (brF (by decide) (kH (f_settles (h.sc hz) hzm _) (by decide) (brT rfl ?_))))
  refine brF (by show ¬ (1 : Int32) <<< (M.1 9 &&& 31) ≤ 0 + Int32.ofInt 1; rw [h9]; decide) (brT rfl (brF (by decide) (kH (f_settles (h.sc hz) hzm _) (by decide) (brT rfl ?_))))
  exact brT (by show (1 : Int32) <<< (M.1 9 &&& 31) ≤ 0 + Int32.ofInt 1 + Int32.ofInt 1; rw [h9]; decide) (br (fun _ => some_int e) (fun _ => brT rfl (some_int e)))
def thrA (t u v : Int32) : Int64 := if zeP t ∧ zeP u ∧ zeP v then 0 else NOL
set_option maxRecDepth 100000 in
theorem f_thrice (h : FM M) (t u v : Int32) : Ctr l 6 X sgX8_thrice [.ref 27, .int t, .int u, .int v] (mk S M) (pA (.long (thrA t u v))) := by
  refine Ctr.of okX8_thrice rfl (Nat.le_of_ble_eq_true rfl) (run_sound okX8_thrice noCut 200 ?_)
  refine kH (f_T h t) (by decide) (brB' (fun q => ⟨rfl, some_long (if_neg (fun z => q z.1)).symm⟩) (fun q => kH (f_T h u) (by decide) (brB' (fun q2 => ⟨rfl, some_long (if_neg (fun z => q2 z.2.1)).symm⟩) (fun q2 => kH (f_T h v) (by decide) (brB' (fun q3 => ⟨rfl, some_long (if_neg (fun z => q3 z.2.2)).symm⟩) (fun q3 => ⟨5, _, by decide, f_worldsNow h, ?_⟩))))))
  rintro hp' w ⟨⟨z, hz, hzm, rfl⟩, rfl⟩
  have e : thrA t u v = 0 := if_pos ⟨q, q2, q3⟩
  rw [e]
  exact kH ((h.sc hz).once hzm (zeP_0 q)) (by decide) (kH ((h.sc hz).once hzm (zeP_0 q2)) (by decide) (kH ((h.sc hz).once hzm (zeP_0 q3)) (by decide) ⟨rfl, some_long (by decide)⟩))
/-- how many are so: least, most, exactly -/
def maF (what : Int32) (s : Int64) : Nat → Int32 × Int32 × Int32
  | 0 => (-1, -1, 0)
  | w + 1 => if (s >>> ((nI w).toInt64 &&& 63)) &&& 1 = 1 then
      (if (maF what s w).1 = -1 then cntF (nI w).toInt64 32 else if (maF what s w).1 ≤ cntF (nI w).toInt64 32 then (maF what s w).1 else cntF (nI w).toInt64 32,
       if cntF (nI w).toInt64 32 ≤ (maF what s w).2.1 then (maF what s w).2.1 else cntF (nI w).toInt64 32,
       (maF what s w).2.2 + if cntF (nI w).toInt64 32 = what - 2 then 1 else 0)
    else maF what s w
def cNm (i : Nat) : Bool := Nat.beq i 18 || Nat.beq i 39 || Nat.beq i 46
def manF (what : Int32) (s : Int64) : Int32 := if (maF what s 32).1 = -1 then -1 else if what = 0 then (maF what s 32).1 else if what = 1 then (maF what s 32).2.1 else (maF what s 32).2.2
def manA (what : Int32) : Int32 := if (0 : Int32) ≤ what ∧ what ≤ 7 then manF what ALLW else -2
set_option maxRecDepth 100000 in
set_option maxHeartbeats 1000000 in
theorem f_many (h : FM M) (what : Int32) : Ctr l 6 X sgX8_many [.ref 27, .int what] (mk S M) (pA (.int (manA what))) := by
  refine Ctr.of okX8_many rfl (Nat.le_of_ble_eq_true rfl) (run_sound okX8_many cNm 200 ?_)
  refine kH (m_in _ _ _) (by decide) (brB' (fun q => some_int (if_neg q).symm) (fun q => ⟨5, _, by decide, f_worldsNow h, ?_⟩))
  rintro hp' w ⟨⟨z, hz, hzm, rfl⟩, rfl⟩
  rw [show manA what = manF what ALLW from if_pos q]
  have key : ∀ j, j ≤ 32 → ∀ x8, WP l (rmD 6 0 0) X sgX8_many kX8_many (pA (.int (manF what ALLW))) 18 [some (.ref 27), some (.int what), some (.long ALLW), none, some (.int (maF what ALLW j).1), some (.int (maF what ALLW j).2.1), some (.int (maF what ALLW j).2.2), some (.int (nI j)), x8] [] (mk S (sc M z)) 0 0 := by
    refine down (fun x8 => ?_) (fun j hj ih x8 => ?_)
    · refine run_sound okX8_many cNm 200 (brT (Int32.le_refl _) (br (fun p => some_int ?_) (fun p => br (fun p0 => some_int ?_) (fun p0 => br (fun p1 => some_int ?_) (fun p1 => some_int ?_)))))
      · exact (if_pos p).symm
      · exact ((if_neg p).trans (if_pos p0)).symm
      · exact ((if_neg p).trans ((if_neg p0).trans (if_pos p1))).symm
      · exact ((if_neg p).trans ((if_neg p0).trans (if_neg p1))).symm
    · refine run_sound okX8_many cNm 200 (brF (ge_no (n := 32) rfl hj (by decide)) (kH (m_has _ _) (by decide) (brB' (fun hs => ?_) (fun hs => kH (m_bitsOf _) (by decide) ?_))))
      · have ih := ih x8
        rw [maF, if_neg hs, ← nI_1 j] at ih
        exact ih
      · obtain ⟨c, hc⟩ : ∃ c, c = cntF (nI j).toInt64 32 := ⟨_, rfl⟩
        rw [maF, if_pos hs, ← hc, ← nI_1 j] at ih
        rw [← hc]
        have t46 : ∀ v4 v5, v4 = (if (maF what ALLW j).1 = -1 then c else if (maF what ALLW j).1 ≤ c then (maF what ALLW j).1 else c) → v5 = (if c ≤ (maF what ALLW j).2.1 then (maF what ALLW j).2.1 else c) →
            WP l (rmD 6 0 0) X sgX8_many kX8_many (pA (.int (manF what ALLW))) 46 [some (.ref 27), some (.int what), some (.long ALLW), none, some (.int v4), some (.int v5), some (.int (maF what ALLW j).2.2), some (.int (nI j)), some (.int c)] [] (mk S (sc M z)) 0 0 := by
          intro v4 v5 h4 h5
          have ih := ih (some (.int c))
          rw [← h4, ← h5] at ih
          refine run_sound okX8_many cNm 200 (br (fun p => ?_) (fun p => ?_))
          · rw [show (if c = what - 2 then (1 : Int32) else 0) = 1 from if_pos p] at ih
            exact ih
          · rw [show (if c = what - 2 then (1 : Int32) else 0) = 0 from if_neg p] at ih
            exact ih
        have t39 : ∀ v4, v4 = (if (maF what ALLW j).1 = -1 then c else if (maF what ALLW j).1 ≤ c then (maF what ALLW j).1 else c) →
            WP l (rmD 6 0 0) X sgX8_many kX8_many (pA (.int (manF what ALLW))) 39 [some (.ref 27), some (.int what), some (.long ALLW), none, some (.int v4), some (.int (maF what ALLW j).2.1), some (.int (maF what ALLW j).2.2), some (.int (nI j)), some (.int c)] [] (mk S (sc M z)) 0 0 := by
          intro v4 h4
          exact run_sound okX8_many cNm 200 (br (fun p => t46 _ _ h4 (if_pos p).symm) (fun p => t46 _ _ h4 (if_neg p).symm))
        exact br (fun p => t39 _ (if_pos p).symm) (fun p => br (fun p2 => t39 _ ((if_neg p).trans (if_pos p2)).symm) (fun p2 => t39 _ ((if_neg p).trans (if_neg p2)).symm))
  exact key 0 (Nat.zero_le _) none
def gonA (s : Int32) : Int32 := if p3P s then -11 else -2
theorem FM.gone (h : FM M) {s : Int32} (q : p3P s) : vp_in s (M.2.1 17).length ∧ (M.2.1 17).getD s.toNatClampNeg 0 = -1 := by
  rw [h.2.2.2.2]
  rcases in03 q with rfl | rfl | rfl | rfl
  · exact ⟨vp_nI (n := 0) (N := 4) (by decide) (by decide), by decide⟩
  · exact ⟨vp_nI (n := 1) (N := 4) (by decide) (by decide), by decide⟩
  · exact ⟨vp_nI (n := 2) (N := 4) (by decide) (by decide), by decide⟩
  · exact ⟨vp_nI (n := 3) (N := 4) (by decide) (by decide), by decide⟩
set_option maxRecDepth 100000 in
theorem f_judge (h : FM M) (s w : Int32) : Ctr l 2 X sgX8_judge [.ref 27, .int s, .int w] (mk S M) (pA (.int (gonA s))) := by
  refine Ctr.of okX8_judge rfl (Nat.le_of_ble_eq_true rfl) (run_sound okX8_judge noCut 200 ?_)
  refine kH (m_in _ _ _) (by decide) (brB' (fun q => some_int (if_neg q).symm) (fun q => Exists.intro _ (And.intro rfl (And.intro (h.gone q).1 (brT (h.gone q).2 (some_int (if_pos q).symm))))))
set_option maxRecDepth 100000 in
theorem f_cell (h : FM M) (s i v : Int32) : Ctr l 2 X sgX8_cell [.ref 27, .int s, .int i, .int v] (mk S M) (pA (.int (gonA s))) := by
  refine Ctr.of okX8_cell rfl (Nat.le_of_ble_eq_true rfl) (run_sound okX8_cell noCut 200 ?_)
  refine kH (m_in _ _ _) (by decide) (brB' (fun q => some_int (if_neg q).symm) (fun q => Exists.intro _ (And.intro rfl (And.intro (h.gone q).1 (brT (h.gone q).2 (some_int (if_pos q).symm))))))
def copA (s o : Int32) : Int32 := if p3P s ∧ p3P o then -11 else -2
set_option maxRecDepth 100000 in
theorem f_copy (h : FM M) (s i o j n : Int32) : Ctr l 2 X sgX8_copy [.ref 27, .int s, .int i, .int o, .int j, .int n] (mk S M) (pA (.int (copA s o))) := by
  refine Ctr.of okX8_copy rfl (Nat.le_of_ble_eq_true rfl) (run_sound okX8_copy noCut 200 ?_)
  refine kH (m_in _ _ _) (by decide) (brB' (fun q => some_int (if_neg (fun z => q z.1)).symm) (fun q => kH (m_in _ _ _) (by decide) (brB' (fun q2 => some_int (if_neg (fun z => q2 z.2)).symm) (fun q2 => Exists.intro _ (And.intro rfl (And.intro (h.gone q).1 (brT (h.gone q).2 (some_int (if_pos ⟨q, q2⟩).symm))))))))
def sbyA (s sort n : Int32) : Int32 := if p3P s ∧ p2P sort ∧ ((0 : Int32) ≤ n ∧ n ≤ 12) then -11 else -2
set_option maxRecDepth 100000 in
theorem f_sayingsBy (h : FM M) (s sort i n : Int32) : Ctr l 3 X sgX8_sayingsBy [.ref 27, .int s, .int sort, .int i, .int n] (mk S M) (pA (.int (sbyA s sort n))) := by
  refine Ctr.of okX8_sayingsBy rfl (Nat.le_of_ble_eq_true rfl) (run_sound okX8_sayingsBy noCut 200 ?_)
  refine kH (m_in _ _ _) (by decide) (brB' (fun q => some_int (if_neg (fun z => q z.1)).symm) (fun q => kH (m_in _ _ _) (by decide) (brB' (fun q2 => some_int (if_neg (fun z => q2 z.2.1)).symm) (fun q2 => kH (m_in _ _ _) (by decide) (brB' (fun q3 => some_int (if_neg (fun z => q3 z.2.2)).symm) (fun q3 => Exists.intro _ (And.intro rfl (And.intro (h.gone q).1 (brT (h.gone q).2 (some_int (if_pos ⟨q, q2, q3⟩).symm))))))))))
def takA (i k : Int32) : Int32 := if (0 : Int32) ≤ k ∧ k ≤ 6 then (if (0 : Int32) ≤ i ∧ i ≤ 16 then -11 else -12) else -2
theorem sub12 {i : Int32} (h : ¬ i < 12) (h2 : i ≤ 16) : ¬ i - 12 < 0 := by
  have e12 : (12 : Int32).toInt = 12 := by decide
  have e0 : (0 : Int32).toInt = 0 := by decide
  have e16 : (16 : Int32).toInt = 16 := by decide
  have h1 := Int32.le_iff_toInt_le.mp (Int32.not_lt.mp h)
  have h3 := Int32.le_iff_toInt_le.mp h2
  intro z
  have z := Int32.lt_iff_toInt_lt.mp z
  rw [Int32.toInt_sub, e12, e0] at z
  rw [e12] at h1
  rw [e16] at h3
  rw [Int.bmod_eq_of_le (by omega) (by omega)] at z
  omega
set_option maxRecDepth 100000 in
theorem f_taken (h : FM M) (i k : Int32) : Ctr l 1 X sgX8_taken [.ref 27, .int i, .int k] (mk S M) (pA (.int (takA i k))) := by
  have h0 := h.n0
  have h3 := h.n3
  refine Ctr.of okX8_taken rfl (Nat.le_of_ble_eq_true rfl) (run_sound okX8_taken noCut 200 ?_)
  refine kH (m_in _ _ _) (by decide) (brB' (fun q => some_int (if_neg q).symm) (fun q => kH (m_in _ _ _) (by decide) (brB' (fun q2 => some_int ((if_pos q).trans (if_neg q2)).symm) (fun q2 => ?_))))
  have e : (-11 : Int32) = takA i k := ((if_pos q).trans (if_pos q2)).symm
  refine br (fun p => brF ?_ (some_int e)) (fun p => brF ?_ (some_int e))
  · show ¬ i - 12 < M.1 0
    rw [h0]
    exact sub12 (Int32.not_lt.mpr p) q2.2
  · show ¬ i < M.1 3
    rw [h3]
    exact Int32.not_lt.mpr q2.1
end MFR3
