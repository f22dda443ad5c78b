/-! THE REFERENCE's questions over the worlds, over a new one -/
section MFR2
variable {l : Launch} {X : List (List Int32)} {S : CS} {M : MS} {hp : AH}
/-- what is so in all worlds, what in none, the least world -/
def alF (s : Int64) : Nat → Int32
  | 0 => if s = 0 then 0 else 31
  | w + 1 => alF s w &&& (if (s >>> ((nI w).toInt64 &&& 63)) &&& 1 = 1 then nI w else 31)
def noF (s : Int64) : Nat → Int32
  | 0 => if s = 0 then 0 else 31
  | w + 1 => noF s w &&& (if (s >>> ((nI w).toInt64 &&& 63)) &&& 1 = 1 then 31 &&& (nI w ^^^ -1) else 31)
def leF (s : Int64) : Nat → Nat → Int32
  | 0, _ => -1
  | m + 1, w => if (s >>> ((nI w).toInt64 &&& 63)) &&& 1 = 1 then nI w else leF s m (w + 1)
set_option maxRecDepth 100000 in
theorem m_allIn (s : Int64) : Ans l 1 X sgX8_allIn [.long s] hp (alF s 32) := by
  refine Ctr.of okX8_allIn rfl (Nat.le_of_ble_eq_true rfl) (run_sound okX8_allIn (fun i => Nat.beq i 10) 100 ?_)
  have key : ∀ j, j ≤ 32 → WP l (rmD 1 0 0) X sgX8_allIn kX8_allIn (fun h w => h = hp ∧ w = some (.int (alF s 32))) 10 [some (.long s), none, some (.int (alF s j)), some (.int (nI j))] [] hp 0 0 := by
    refine down ?_ (fun j hj ih => ?_)
    · exact run_sound okX8_allIn (fun i => Nat.beq i 10) 100 (brT (Int32.le_refl _) ⟨rfl, rfl⟩)
    · refine run_sound okX8_allIn (fun i => Nat.beq i 10) 100 (brF (ge_no (n := 32) rfl hj (by decide)) (kH (m_has _ _) (by decide) (brB' (fun h => ?_) (fun h => ?_))))
      · rw [show alF s (j + 1) = alF s j &&& 31 by rw [alF, if_neg h], ← nI_1 j] at ih
        exact ih
      · rw [show alF s (j + 1) = alF s j &&& nI j by rw [alF, if_pos h], ← nI_1 j] at ih
        exact ih
  exact brC (fun h => by have q := key 0 (Nat.zero_le _); rw [show alF s 0 = 0 from if_pos h] at q; exact q) (fun h => by have q := key 0 (Nat.zero_le _); rw [show alF s 0 = 31 from if_neg h] at q; exact q)
set_option maxRecDepth 100000 in
theorem m_noneIn (s : Int64) : Ans l 1 X sgX8_noneIn [.long s] hp (noF s 32) := by
  refine Ctr.of okX8_noneIn rfl (Nat.le_of_ble_eq_true rfl) (run_sound okX8_noneIn (fun i => Nat.beq i 10) 100 ?_)
  have key : ∀ j, j ≤ 32 → WP l (rmD 1 0 0) X sgX8_noneIn kX8_noneIn (fun h w => h = hp ∧ w = some (.int (noF s 32))) 10 [some (.long s), none, some (.int (noF s j)), some (.int (nI j))] [] hp 0 0 := by
    refine down ?_ (fun j hj ih => ?_)
    · exact run_sound okX8_noneIn (fun i => Nat.beq i 10) 100 (brT (Int32.le_refl _) ⟨rfl, rfl⟩)
    · refine run_sound okX8_noneIn (fun i => Nat.beq i 10) 100 (brF (ge_no (n := 32) rfl hj (by decide)) (kH (m_has _ _) (by decide) (brB' (fun h => ?_) (fun h => ?_))))
      · rw [show noF s (j + 1) = noF s j &&& 31 by rw [noF, if_neg h], ← nI_1 j] at ih
        exact ih
      · rw [show noF s (j + 1) = noF s j &&& (31 &&& (nI j ^^^ -1)) by rw [noF, if_pos h], ← nI_1 j] at ih
        exact ih
  exact brC (fun h => by have q := key 0 (Nat.zero_le _); rw [show noF s 0 = 0 from if_pos h] at q; exact q) (fun h => by have q := key 0 (Nat.zero_le _); rw [show noF s 0 = 31 from if_neg h] at q; exact q)
set_option maxRecDepth 100000 in
theorem m_leastOf (s : Int64) : Ans l 1 X sgX8_leastOf [.long s] hp (leF s 32 0) := by
  refine Ctr.of okX8_leastOf rfl (Nat.le_of_ble_eq_true rfl) (run_sound okX8_leastOf (fun i => Nat.beq i 2) 100 ?_)
  have key : ∀ j, j ≤ 32 → leF s (32 - j) j = leF s 32 0 → WP l (rmD 1 0 0) X sgX8_leastOf kX8_leastOf (fun h w => h = hp ∧ w = some (.int (leF s 32 0))) 2 [some (.long s), none, some (.int (nI j))] [] hp 0 0 := by
    refine down (fun e => ?_) (fun j hj ih e => ?_)
    · exact run_sound okX8_leastOf (fun i => Nat.beq i 2) 100 (brT (Int32.le_refl _) ⟨rfl, some_int e⟩)
    · rw [show 32 - j = (32 - (j + 1)) + 1 by omega, leF] at e
      refine run_sound okX8_leastOf (fun i => Nat.beq i 2) 100 (brF (ge_no (n := 32) rfl hj (by decide)) (kH (m_has _ _) (by decide) (brB' (fun h => ?_) (fun h => ?_))))
      · rw [if_neg h] at e
        have ih := ih e
        rw [← nI_1 j] at ih
        exact ih
      · rw [if_pos h] at e
        exact ⟨rfl, some_int e⟩
  exact key 0 (Nat.zero_le _) rfl
def behA (n what : Int32) : Int32 := if zeP n then (if p3P what then (if what = 0 then 32 else 0) else -7) else -5
theorem in03 {v : Int32} (h : (0 : Int32) ≤ v ∧ v ≤ 3) : v = 0 ∨ v = 1 ∨ v = 2 ∨ v = 3 := by
  have h1 := Int32.le_iff_toInt_le.mp h.1
  have h2 := Int32.le_iff_toInt_le.mp h.2
  have e0 : (0 : Int32).toInt = 0 := by decide
  have e1 : (1 : Int32).toInt = 1 := by decide
  have e2 : (2 : Int32).toInt = 2 := by decide
  have e3 : (3 : Int32).toInt = 3 := by decide
  rcases (show v.toInt = 0 ∨ v.toInt = 1 ∨ v.toInt = 2 ∨ v.toInt = 3 by omega) with e | e | e | e
  · exact Or.inl (Int32.toInt_inj.mp (e.trans e0.symm))
  · exact Or.inr (Or.inl (Int32.toInt_inj.mp (e.trans e1.symm)))
  · exact Or.inr (Or.inr (Or.inl (Int32.toInt_inj.mp (e.trans e2.symm))))
  · exact Or.inr (Or.inr (Or.inr (Int32.toInt_inj.mp (e.trans e3.symm))))
set_option maxRecDepth 100000 in
theorem f_behind (h : FM M) (n what : Int32) : Ctr l 5 X sgX8_behind [.ref 27, .int n, .int what] (mk S M) (pA (.int (behA n what))) := by
  have hc : Ans l 0 X sgX8_in [.int n, .int 0, .int (M.1 3)] (mk S M) (bI (zeP n)) := by
    have q : Ans l 0 X sgX8_in [.int n, .int 0, .int (M.1 3)] (mk S M) (bI (0 ≤ n ∧ n ≤ M.1 3)) := m_in _ _ _
    rw [h.n3] at q ⊢
    exact q
  refine Ctr.of okX8_behind rfl (Nat.le_of_ble_eq_true rfl) (run_sound okX8_behind noCut 100 ?_)
  refine kH hc (by decide) (brB' (fun q => some_int (if_neg q).symm) (fun q => kH (m_in _ _ _) (by decide) (brB' (fun q2 => some_int ((if_pos q).trans (if_neg q2)).symm) (fun q2 => ?_))))
  have e : behA n what = if what = 0 then 32 else 0 := (if_pos q).trans (if_pos q2)
  rw [e]
  refine ⟨4, _, by decide, f_reads h, ?_⟩
  rintro hp' w ⟨⟨z, hz, hzm, rfl⟩, rfl⟩
  refine kH (f_worldsOf (h.sc hz) hzm (zeP_0 q)) (by decide) ?_
  rcases in03 q2 with rfl | rfl | rfl | rfl
  · exact brT rfl (kH (m_bitsOf _) (by decide) (some_int (by decide +kernel)))
  · exact brF (by decide) (brT rfl (kH (m_allIn _) (by decide) (some_int (by decide +kernel))))
  · exact brF (by decide) (brF (by decide) (brT rfl (kH (m_noneIn _) (by decide) (some_int (by decide +kernel)))))
  · exact brF (by decide) (brF (by decide) (brF (by decide) (kH (m_leastOf _) (by decide) (some_int (by decide +kernel)))))
set_option maxRecDepth 100000 in
theorem f_cannot (h : FM M) : Ctr l 5 X sgX8_cannot [.ref 27] (mk S M) (pA (.int (-1))) := by
  have h3 := h.n3
  refine Ctr.of okX8_cannot rfl (Nat.le_of_ble_eq_true rfl) (run_sound okX8_cannot noCut 100 ?_)
  refine ⟨4, _, by decide, f_reads h, ?_⟩
  rintro hp' w ⟨⟨z, hz, hzm, rfl⟩, rfl⟩
  exact brT (by show M.1 3 ≤ 0; rw [h3]; decide) rfl
set_option maxRecDepth 100000 in
theorem f_findsFitting (h : FM M) : Ctr l 5 X sgX8_findsFitting [.ref 27] (mk S M) (fQ S M none) := by
  have h3 := h.n3
  refine Ctr.of okX8_findsFitting rfl (Nat.le_of_ble_eq_true rfl) (run_sound okX8_findsFitting noCut 100 ?_)
  refine ⟨4, _, by decide, f_reads h, ?_⟩
  rintro hp' w ⟨⟨z, hz, hzm, rfl⟩, rfl⟩
  exact brT (by show M.1 3 ≤ 0; rw [h3]; decide) ⟨rfl, ⟨z, hz, hzm, rfl⟩, rfl⟩
set_option maxRecDepth 100000 in
theorem f_without (h : FM M) (hm : M.2.2.1.getD 0 0 = ALLW) (left : Int32) : AnsL l 1 X sgX8_without [.ref 27, .int left] (mk S M) ALLW := by
  have h3 := h.n3
  refine Ctr.of okX8_without rfl (Nat.le_of_ble_eq_true rfl) (run_sound okX8_without noCut 100 ?_)
  exact kH (h.once hm h.n10) (by decide) (brT (by show M.1 3 ≤ 0; rw [h3]; decide) ⟨rfl, rfl, rfl⟩)
set_option maxRecDepth 100000 in
theorem f_worldsMad (h : FM M) (hm : M.2.2.1.getD 0 0 = ALLW) (some_ : Int32) : AnsL l 1 X sgX8_worldsMad [.ref 27, .int some_] (mk S M) ALLW := by
  have h3 := h.n3
  refine Ctr.of okX8_worldsMad rfl (Nat.le_of_ble_eq_true rfl) (run_sound okX8_worldsMad noCut 100 ?_)
  exact kH (h.once hm h.n10) (by decide) (brT (by show M.1 3 ≤ 0; rw [h3]; decide) ⟨rfl, rfl, rfl⟩)
set_option maxRecDepth 100000 in
theorem f_lies (h : FM M) : Ctr l 6 X sgX8_lies [.ref 27] (mk S M) (pA (.int 0)) := by
  have h3 := h.n3
  refine Ctr.of okX8_lies rfl (Nat.le_of_ble_eq_true rfl) (run_sound okX8_lies noCut 100 ?_)
  refine ⟨5, _, by decide, f_findsFitting h, ?_⟩
  rintro hp' w ⟨⟨z, hz, hzm, rfl⟩, rfl⟩
  exact brT (by show M.1 3 ≤ 0; rw [h3]; decide) rfl
def twoA (what a b : Int32) : Int32 := if p1P what then a else b
set_option maxRecDepth 100000 in
theorem f_least (h : FM M) (what : Int32) : Ctr l 6 X sgX8_least [.ref 27, .int what] (mk S M) (pA (.int (twoA what 0 (-2)))) := by
  have h3 := h.n3
  refine Ctr.of okX8_least rfl (Nat.le_of_ble_eq_true rfl) (run_sound okX8_least noCut 200 ?_)
  refine kH (m_in _ _ _) (by decide) (brB' (fun q => some_int (if_neg q).symm) (fun q => ⟨5, _, by decide, f_findsFitting h, ?_⟩))
  rintro hp' w ⟨⟨z, hz, hzm, rfl⟩, rfl⟩
  refine brF (by show ¬ (1 : Int32) <<< (M.1 3 &&& 31) ≤ 0; rw [h3]; decide) (brT rfl (brF (by decide) (kH (f_without (h.sc hz) hzm _) (by decide) (brC (fun z => absurd z (by decide)) (fun _ => ?_)))))
  refine brT (by show (1 : Int32) <<< (M.1 3 &&& 31) ≤ 0 + Int32.ofInt 1; rw [h3]; decide) (br (fun _ => some_int (if_pos q).symm) (fun _ => brF (by decide) (kH (m_bitsOf _) (by decide) (some_int ?_))))
  exact (show cntF (Int32.toInt64 0) 32 = 0 by decide +kernel).trans (if_pos q).symm
set_option maxRecDepth 100000 in
theorem f_mad (h : FM M) (what : Int32) : Ctr l 5 X sgX8_mad [.ref 27, .int what] (mk S M) (pA (.int (twoA what 0 (-2)))) := by
  have h0 := h.n0
  refine Ctr.of okX8_mad rfl (Nat.le_of_ble_eq_true rfl) (run_sound okX8_mad noCut 200 ?_)
  refine kH (m_in _ _ _) (by decide) (brB' (fun q => some_int (if_neg q).symm) (fun q => ⟨4, _, by decide, f_reads h, ?_⟩))
  rintro hp' w ⟨⟨z, hz, hzm, rfl⟩, rfl⟩
  refine brF (by show ¬ (1 : Int32) <<< (M.1 0 &&& 31) ≤ 0; rw [h0]; decide) (brT rfl (brF (by decide) (kH (f_worldsMad (h.sc hz) hzm _) (by decide) (brC (fun z => absurd z (by decide)) (fun _ => ?_)))))
  refine brT (by show (1 : Int32) <<< (M.1 0 &&& 31) ≤ 0 + Int32.ofInt 1; rw [h0]; decide) (br (fun _ => some_int (if_pos q).symm) (fun _ => brF (by decide) (kH (m_bitsOf _) (by decide) (some_int ?_))))
  exact (show cntF (Int32.toInt64 0) 32 = 0 by decide +kernel).trans (if_pos q).symm
set_option maxRecDepth 100000 in
theorem f_habit (h : FM M) (s w part : Int32) : Ctr l 2 X sgX8_habit [.ref 27, .int s, .int w, .int part] (mk S M) (pA (.long NOL)) := by
  refine Ctr.of okX8_habit rfl (Nat.le_of_ble_eq_true rfl) (run_sound okX8_habit noCut 100 ?_)
  exact kH (f_S h s) (by decide) (brT rfl ⟨rfl, rfl⟩)
set_option maxRecDepth 100000 in
theorem f_kinds (h : FM M) (s w : Int32) : Ctr l 2 X sgX8_kinds [.ref 27, .int s, .int w] (mk S M) (pA (.int (-5))) := by
  refine Ctr.of okX8_kinds rfl (Nat.le_of_ble_eq_true rfl) (run_sound okX8_kinds noCut 100 ?_)
  exact kH (f_S h s) (by decide) (brT rfl rfl)
set_option maxRecDepth 100000 in
theorem f_findsQuestion (h : FM M) (left : Int64) (n : Int32) : Ctr l 1 X sgX8_findsQuestion [.ref 27, .long left, .int n] (mk S M) (fun hp w => hp = mk S (mN (mN (mN M 34 (-1)) 35 (-1)) 36 (-1)) ∧ w = none) := by
  have h0 := h.n0
  refine Ctr.of okX8_findsQuestion rfl (Nat.le_of_ble_eq_true rfl) (run_sound okX8_findsQuestion noCut 100 ?_)
  refine And.intro trivial (And.intro trivial (And.intro trivial (brT ?_ ⟨rfl, rfl, rfl⟩)))
  show M.1 0 * M.1 9 ≤ 0
  rw [h0, h.n9]
  decide
def askA3 (what : Int32) : Int32 := if p2P what then -1 else -2
set_option maxRecDepth 100000 in
theorem f_ask (h : FM M) (what : Int32) : Ctr l 7 X sgX8_ask [.ref 27, .int what] (mk S M) (pA (.int (askA3 what))) := by
  refine Ctr.of okX8_ask rfl (Nat.le_of_ble_eq_true rfl) (run_sound okX8_ask noCut 100 ?_)
  refine kH (m_in _ _ _) (by decide) (brB' (fun q => some_int (if_neg q).symm) (fun q => ⟨5, _, by decide, f_worldsNow h, ?_⟩))
  rintro hp' w ⟨⟨z, hz, hzm, rfl⟩, rfl⟩
  have e : (-1 : Int32) = askA3 what := (if_pos q).symm
  exact kH (f_findsQuestion (h.sc hz) _ _) (by decide) (br (fun _ => some_int e) (fun _ => br (fun _ => some_int e) (fun _ => some_int e)))
set_option maxRecDepth 100000 in
theorem f_two (h : FM M) (what : Int32) : Ctr l 6 X sgX8_two_ [.ref 27, .int what] (mk S M) (pA (.int (twoA what (-1) (-2)))) := by
  have h0 := h.n0
  have h9 := h.n9
  refine Ctr.of okX8_two_ rfl (Nat.le_of_ble_eq_true rfl) (run_sound okX8_two_ noCut 100 ?_)
  refine kH (m_in _ _ _) (by decide) (brB' (fun q => some_int (if_neg q).symm) (fun q => ⟨5, _, by decide, f_worldsNow h, ?_⟩))
  rintro hp' w ⟨⟨z, hz, hzm, rfl⟩, rfl⟩
  have e : (-1 : Int32) = twoA what (-1) (-2) := (if_pos q).symm
  exact brT (by show M.1 0 * M.1 9 ≤ 0; rw [h0, h9]; decide) (br (fun _ => some_int e) (fun _ => some_int e))
set_option maxRecDepth 100000 in
theorem f_parts (h : FM M) (s t what : Int32) : Ctr l 2 X sgX8_parts [.ref 27, .int s, .int t, .int what] (mk S M) (pA (.long NOL)) := by
  refine Ctr.of okX8_parts rfl (Nat.le_of_ble_eq_true rfl) (run_sound okX8_parts noCut 100 ?_)
  exact kH (f_S h s) (by decide) (brT rfl ⟨rfl, rfl⟩)
set_option maxRecDepth 100000 in
theorem f_hide (h : FM M) (s t what : Int32) : Ctr l 2 X sgX8_hide [.ref 27, .int s, .int t, .int what] (mk S M) (pA (.int (-5))) := by
  refine Ctr.of okX8_hide rfl (Nat.le_of_ble_eq_true rfl) (run_sound okX8_hide noCut 100 ?_)
  exact kH (f_S h s) (by decide) (brT rfl rfl)
end MFR2
