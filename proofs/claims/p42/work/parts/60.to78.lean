/-! parts 60 .. 78, joined -/
section
-- 60.mpub
/-! THE REFERENCE's public methods -/
section MPUB
variable {l : Launch} {X : List (List Int32)} {S : CS} {M : MS} {hp : AH}
set_option maxRecDepth 100000 in
theorem m_isByte (v : Int32) : Ans l 1 X sgX8_isByte [.int v] hp (bI (Int32.ofInt 0 ≤ v ∧ v ≤ Int32.ofInt 255)) := by
  refine Ctr.of okX8_isByte rfl (Nat.le_of_ble_eq_true rfl) (run_sound okX8_isByte noCut 100 ?_)
  exact kH (m_in _ _ _) (by decide) ⟨nar_bI, rfl, rfl⟩
def m_cnt (M : MS) (v : Int32) : Int32 := if v = 0 then M.1 0 else if v = 1 then M.1 3 else if v = 2 then M.1 9 else if v = 3 then M.1 10 else if v = 4 then M.1 6 else Int32.ofInt (-2)
set_option maxRecDepth 100000 in
theorem m_count (v : Int32) : Ans l 0 X sgX8_count [.ref 27, .int v] (mk S M) (m_cnt M v) := by
  refine Ctr.of okX8_count rfl (Nat.le_of_ble_eq_true rfl) (run_sound okX8_count noCut 100 ?_)
  refine And.intro (fun h => ⟨rfl, some_int ?_⟩) (And.intro (fun h => ?_) (And.intro (fun h => ?_) (And.intro (fun h => ?_) (And.intro (fun h => ?_) (And.intro (fun h => ?_) trivial)))))
  · have n0 : ¬ v = 0 := fun z => by subst z; revert h; decide
    have n1 : ¬ v = 1 := fun z => by subst z; revert h; decide
    have n2 : ¬ v = 2 := fun z => by subst z; revert h; decide
    have n3 : ¬ v = 3 := fun z => by subst z; revert h; decide
    have n4 : ¬ v = 4 := fun z => by subst z; revert h; decide
    simp only [m_cnt, if_neg n0, if_neg n1, if_neg n2, if_neg n3, if_neg n4]
  · subst h; exact ⟨rfl, rfl⟩
  · subst h; exact ⟨rfl, rfl⟩
  · subst h; exact ⟨rfl, rfl⟩
  · subst h; exact ⟨rfl, rfl⟩
  · subst h; exact ⟨rfl, rfl⟩
abbrev inP (v lo hi : Int32) : Prop := lo ≤ v ∧ v ≤ hi
abbrev frP (M : MS) (v : Int32) : Prop := inP v (Int32.ofInt 0) (M.1 9 - Int32.ofInt 1)
set_option maxRecDepth 100000 in
theorem m_force (v : Int32) : Ctr l 1 X sgX8_force [.ref 27, .int v] (mk S M) (fun h w => h = mk S (if frP M v then mN M 10 v else M) ∧ w = some (.int (if frP M v then M.1 10 else Int32.ofInt (-2)))) := by
  refine Ctr.of okX8_force rfl (Nat.le_of_ble_eq_true rfl) (run_sound okX8_force noCut 100 ?_)
  refine kH (m_in _ _ _) (by decide) (brB' (fun q => ⟨?_, some_int ?_⟩) (fun q => And.intro trivial ⟨?_, some_int ?_⟩))
  · rw [if_neg (show ¬ frP M v from q)]
  · rw [if_neg (show ¬ frP M v from q)]
  · rw [if_pos (show frP M v from q)]; rfl
  · rw [if_pos (show frP M v from q)]
set_option maxRecDepth 100000 in
theorem m_isSo (k m : Int32) : Ans l 1 X sgX8_isSo [.int k, .int m] hp (bI (inP k (Int32.ofInt 0) (Int32.ofInt 5) ∧ inP m (Int32.ofInt 0) (Int32.ofInt 9))) := by
  refine Ctr.of okX8_isSo rfl (Nat.le_of_ble_eq_true rfl) (run_sound okX8_isSo noCut 100 ?_)
  exact kH (m_in _ _ _) (by decide) (brB' (fun q => ⟨rfl, rfl, some_int (bIe0 (fun z => q z.1))⟩) (fun q => kH (m_in _ _ _) (by decide) (brB' (fun q2 => ⟨rfl, rfl, some_int (bIe0 (fun z => q2 z.2))⟩) (fun q2 => ⟨rfl, rfl, some_int (bIe1 ⟨q, q2⟩)⟩))))
set_option maxRecDepth 100000 in
theorem m_unsay : Ctr l 0 X sgX8_unsay [.ref 27] (mk S M) (fun h w => h = mk S (if M.1 3 = Int32.ofInt 0 then M else mN M 3 (M.1 3 - Int32.ofInt 1)) ∧ w = some (.int (if M.1 3 = Int32.ofInt 0 then Int32.ofInt (-3) else M.1 3 - Int32.ofInt 1))) := by
  refine Ctr.of okX8_unsay rfl (Nat.le_of_ble_eq_true rfl) (run_sound okX8_unsay noCut 100 (And.intro (fun q => ⟨?_, some_int ?_⟩) (fun q => And.intro rfl (And.intro trivial ⟨?_, some_int ?_⟩))))
  · rw [if_pos (show M.1 3 = Int32.ofInt 0 from q)]
  · rw [if_pos (show M.1 3 = Int32.ofInt 0 from q)]
  · rw [if_neg (show ¬ M.1 3 = Int32.ofInt 0 from q)]; rfl
  · rw [if_neg (show ¬ M.1 3 = Int32.ofInt 0 from q)]
end MPUB
end
section
-- 61.fresh
/-! A NEW REFERENCE: what is known of it -/
section FRESH
variable {l : Launch} {X : List (List Int32)} {S : CS} {M : MS} {hp : AH}
def FM (M : MS) : Prop := MLen M ∧ AllOk M 1 ∧ SegF M ∧ (M.1 0 = 0 ∧ M.1 3 = 0 ∧ M.1 9 = 1 ∧ M.1 10 = 0 ∧ M.1 6 = 0 ∧ M.1 11 = 0) ∧ M.2.1 17 = [-1, -1, -1, -1]
theorem NewM.fm (h : NewM M) : FM M := by
  obtain ⟨h1, h2, h3, a, b, tk, v, cd, hd, hm, op, ou, st, rfl⟩ := h
  exact ⟨h1, h2, h3, ⟨rfl, rfl, rfl, rfl, rfl, rfl⟩, rfl⟩
theorem FM.sc {z : SZ} (h : FM M) (hz : ScOk z) : FM (sc M z) := ⟨h.1.sc hz, h.2.1, h.2.2.1, h.2.2.2.1, h.2.2.2.2⟩
theorem FM.n0 (h : FM M) : M.1 0 = 0 := h.2.2.2.1.1
theorem FM.n3 (h : FM M) : M.1 3 = 0 := h.2.2.2.1.2.1
theorem FM.n9 (h : FM M) : M.1 9 = 1 := h.2.2.2.1.2.2.1
theorem FM.n10 (h : FM M) : M.1 10 = 0 := h.2.2.2.1.2.2.2.1
theorem FM.n6 (h : FM M) : M.1 6 = 0 := h.2.2.2.1.2.2.2.2.1
theorem FM.n11 (h : FM M) : M.1 11 = 0 := h.2.2.2.1.2.2.2.2.2
theorem FM.says0 (h : FM M) (w who : Int32) : saysF M 0 0 w who = 1 := by
  unfold saysF
  rw [if_neg (by decide), h.2.2.1.1]
  rfl
theorem FM.says1 (h : FM M) (w who : Int32) : saysF M 1 0 w who = 0 := by
  unfold saysF
  rw [if_neg (by decide), h.2.2.1.2.1]
  rfl
theorem FM.says2 (h : FM M) (w who : Int32) : saysF M 2 0 w who = 1 := by
  unfold saysF
  rw [if_pos rfl, h.2.2.1.2.2]
  rfl
def allB : Nat → Int64
  | 0 => 0
  | w + 1 => allB w ||| ((1 : Int64) <<< ((nI w).toInt64 &&& 63))
theorem soF_all {p t : Nat} {who : Int32} (h : ∀ w, saysF M p t w who = 1) : ∀ n, soF M p t who n = allB n
  | 0 => rfl
  | n + 1 => by rw [soF, allB, soF_all h n, if_pos (h _)]
theorem soF_none {p t : Nat} {who : Int32} (h : ∀ w, saysF M p t w who = 0) : ∀ n, soF M p t who n = 0
  | 0 => rfl
  | n + 1 => by rw [soF, soF_none h n, if_neg (by rw [h]; decide)]; rfl
abbrev ALLW : Int64 := 4294967295
theorem FM.so0 (h : FM M) (who : Int32) : soF M 0 0 who 32 = ALLW := (soF_all (fun w => h.says0 w who) 32).trans (by decide +kernel)
theorem FM.so1 (h : FM M) (who : Int32) : soF M 1 0 who 32 = 0 := soF_none (fun w => h.says1 w who) 32
theorem FM.once (h : FM M) (hm : M.2.2.1.getD 0 0 = ALLW) {t : Int32} (ht : t = 0) : AnsL l 0 X sgX8_once [.ref 27, .int t] (mk S M) ALLW := by
  subst ht
  have q : AnsL l 0 X sgX8_once [.ref 27, .int (nI 0)] (mk S M) (M.2.2.1.getD (10 * 0) 0) := m_once h.1.z.2.2.1 (t := 0) (by decide)
  rw [show M.2.2.1.getD (10 * 0) 0 = ALLW from hm] at q
  exact q
theorem in01 {v : Int32} (h : (0 : Int32) ≤ v ∧ v ≤ 1) : v = 0 ∨ v = 1 := by
  have h1 := Int32.le_iff_toInt_le.mp h.1
  have h2 := Int32.le_iff_toInt_le.mp h.2
  have e0 : (0 : Int32).toInt = 0 := by decide
  have e1 : (1 : Int32).toInt = 1 := by decide
  rcases (show v.toInt = 0 ∨ v.toInt = 1 by omega) with e | e
  · exact Or.inl (Int32.toInt_inj.mp (e.trans e0.symm))
  · exact Or.inr (Int32.toInt_inj.mp (e.trans e1.symm))
theorem in02 {v : Int32} (h : (0 : Int32) ≤ v ∧ v ≤ 2) : v = 0 ∨ v = 1 ∨ v = 2 := by
  have h1 := Int32.le_iff_toInt_le.mp h.1
  have h2 := Int32.le_iff_toInt_le.mp h.2
  have e0 : (0 : Int32).toInt = 0 := by decide
  have e1 : (1 : Int32).toInt = 1 := by decide
  have e2 : (2 : Int32).toInt = 2 := by decide
  rcases (show v.toInt = 0 ∨ v.toInt = 1 ∨ v.toInt = 2 by omega) with e | e | e
  · exact Or.inl (Int32.toInt_inj.mp (e.trans e0.symm))
  · exact Or.inr (Or.inl (Int32.toInt_inj.mp (e.trans e1.symm)))
  · exact Or.inr (Or.inr (Int32.toInt_inj.mp (e.trans e2.symm)))
end FRESH
end
section
-- 62.mfr
/-! THE REFERENCE's public methods, over a new one -/
section MFR
variable {l : Launch} {X : List (List Int32)} {S : CS} {M : MS} {hp : AH}
abbrev NOL : Int64 := -4611686018427387904
abbrev wdP (w : Int32) : Prop := (0 : Int32) ≤ w ∧ w ≤ 31
abbrev whP (w : Int32) : Prop := (0 : Int32) ≤ w ∧ w ≤ 4
abbrev p2P (w : Int32) : Prop := (0 : Int32) ≤ w ∧ w ≤ 2
abbrev p1P (w : Int32) : Prop := (0 : Int32) ≤ w ∧ w ≤ 1
abbrev p3P (w : Int32) : Prop := (0 : Int32) ≤ w ∧ w ≤ 3
end MFR
end
section
-- 63.mfr2
/-! THE REFERENCE's questions over the worlds, over a new one -/
section MFR2
variable {l : Launch} {X : List (List Int32)} {S : CS} {M : MS} {hp : AH}
/-- what is so in all worlds, what in none, the least world -/
def alF (s : Int64) : Nat → Int32
  | 0 => if s = 0 then 0 else 31
  | w + 1 => alF s w &&& (if (s >>> ((nI w).toInt64 &&& 63)) &&& 1 = 1 then nI w else 31)
def noF (s : Int64) : Nat → Int32
  | 0 => if s = 0 then 0 else 31
  | w + 1 => noF s w &&& (if (s >>> ((nI w).toInt64 &&& 63)) &&& 1 = 1 then 31 &&& (nI w ^^^ -1) else 31)
def leF (s : Int64) : Nat → Nat → Int32
  | 0, _ => -1
  | m + 1, w => if (s >>> ((nI w).toInt64 &&& 63)) &&& 1 = 1 then nI w else leF s m (w + 1)
set_option maxRecDepth 100000 in
theorem m_allIn (s : Int64) : Ans l 1 X sgX8_allIn [.long s] hp (alF s 32) := by
  refine Ctr.of okX8_allIn rfl (Nat.le_of_ble_eq_true rfl) (run_sound okX8_allIn (fun i => Nat.beq i 10) 100 ?_)
  have key : ∀ j, j ≤ 32 → WP l (rmD 1 0 0) X sgX8_allIn kX8_allIn (fun h w => h = hp ∧ w = some (.int (alF s 32))) 10 [some (.long s), none, some (.int (alF s j)), some (.int (nI j))] [] hp 0 0 := by
    refine down ?_ (fun j hj ih => ?_)
    · exact run_sound okX8_allIn (fun i => Nat.beq i 10) 100 (brT (Int32.le_refl _) ⟨rfl, rfl⟩)
    · refine run_sound okX8_allIn (fun i => Nat.beq i 10) 100 (brF (ge_no (n := 32) rfl hj (by decide)) (kH (m_has _ _) (by decide) (brB' (fun h => ?_) (fun h => ?_))))
      · rw [show alF s (j + 1) = alF s j &&& 31 by rw [alF, if_neg h], ← nI_1 j] at ih
        exact ih
      · rw [show alF s (j + 1) = alF s j &&& nI j by rw [alF, if_pos h], ← nI_1 j] at ih
        exact ih
  exact brC (fun h => by have q := key 0 (Nat.zero_le _); rw [show alF s 0 = 0 from if_pos h] at q; exact q) (fun h => by have q := key 0 (Nat.zero_le _); rw [show alF s 0 = 31 from if_neg h] at q; exact q)
set_option maxRecDepth 100000 in
theorem m_noneIn (s : Int64) : Ans l 1 X sgX8_noneIn [.long s] hp (noF s 32) := by
  refine Ctr.of okX8_noneIn rfl (Nat.le_of_ble_eq_true rfl) (run_sound okX8_noneIn (fun i => Nat.beq i 10) 100 ?_)
  have key : ∀ j, j ≤ 32 → WP l (rmD 1 0 0) X sgX8_noneIn kX8_noneIn (fun h w => h = hp ∧ w = some (.int (noF s 32))) 10 [some (.long s), none, some (.int (noF s j)), some (.int (nI j))] [] hp 0 0 := by
    refine down ?_ (fun j hj ih => ?_)
    · exact run_sound okX8_noneIn (fun i => Nat.beq i 10) 100 (brT (Int32.le_refl _) ⟨rfl, rfl⟩)
    · refine run_sound okX8_noneIn (fun i => Nat.beq i 10) 100 (brF (ge_no (n := 32) rfl hj (by decide)) (kH (m_has _ _) (by decide) (brB' (fun h => ?_) (fun h => ?_))))
      · rw [show noF s (j + 1) = noF s j &&& 31 by rw [noF, if_neg h], ← nI_1 j] at ih
        exact ih
      · rw [show noF s (j + 1) = noF s j &&& (31 &&& (nI j ^^^ -1)) by rw [noF, if_pos h], ← nI_1 j] at ih
        exact ih
  exact brC (fun h => by have q := key 0 (Nat.zero_le _); rw [show noF s 0 = 0 from if_pos h] at q; exact q) (fun h => by have q := key 0 (Nat.zero_le _); rw [show noF s 0 = 31 from if_neg h] at q; exact q)
set_option maxRecDepth 100000 in
theorem m_leastOf (s : Int64) : Ans l 1 X sgX8_leastOf [.long s] hp (leF s 32 0) := by
  refine Ctr.of okX8_leastOf rfl (Nat.le_of_ble_eq_true rfl) (run_sound okX8_leastOf (fun i => Nat.beq i 2) 100 ?_)
  have key : ∀ j, j ≤ 32 → leF s (32 - j) j = leF s 32 0 → WP l (rmD 1 0 0) X sgX8_leastOf kX8_leastOf (fun h w => h = hp ∧ w = some (.int (leF s 32 0))) 2 [some (.long s), none, some (.int (nI j))] [] hp 0 0 := by
    refine down (fun e => ?_) (fun j hj ih e => ?_)
    · exact run_sound okX8_leastOf (fun i => Nat.beq i 2) 100 (brT (Int32.le_refl _) ⟨rfl, some_int e⟩)
    · rw [show 32 - j = (32 - (j + 1)) + 1 by omega, leF] at e
      refine run_sound okX8_leastOf (fun i => Nat.beq i 2) 100 (brF (ge_no (n := 32) rfl hj (by decide)) (kH (m_has _ _) (by decide) (brB' (fun h => ?_) (fun h => ?_))))
      · rw [if_neg h] at e
        have ih := ih e
        rw [← nI_1 j] at ih
        exact ih
      · rw [if_pos h] at e
        exact ⟨rfl, some_int e⟩
  exact key 0 (Nat.zero_le _) rfl
theorem in03 {v : Int32} (h : (0 : Int32) ≤ v ∧ v ≤ 3) : v = 0 ∨ v = 1 ∨ v = 2 ∨ v = 3 := by
  have h1 := Int32.le_iff_toInt_le.mp h.1
  have h2 := Int32.le_iff_toInt_le.mp h.2
  have e0 : (0 : Int32).toInt = 0 := by decide
  have e1 : (1 : Int32).toInt = 1 := by decide
  have e2 : (2 : Int32).toInt = 2 := by decide
  have e3 : (3 : Int32).toInt = 3 := by decide
  rcases (show v.toInt = 0 ∨ v.toInt = 1 ∨ v.toInt = 2 ∨ v.toInt = 3 by omega) with e | e | e | e
  · exact Or.inl (Int32.toInt_inj.mp (e.trans e0.symm))
  · exact Or.inr (Or.inl (Int32.toInt_inj.mp (e.trans e1.symm)))
  · exact Or.inr (Or.inr (Or.inl (Int32.toInt_inj.mp (e.trans e2.symm))))
  · exact Or.inr (Or.inr (Or.inr (Int32.toInt_inj.mp (e.trans e3.symm))))
end MFR2
end
section
-- 64.mfr3
/-! THE REFERENCE's texts, sheets, images, strangers, over a new one -/
section MFR3
variable {l : Launch} {X : List (List Int32)} {S : CS} {M : MS} {hp : AH}
/-- how many are so: least, most, exactly -/
def maF (what : Int32) (s : Int64) : Nat → Int32 × Int32 × Int32
  | 0 => (-1, -1, 0)
  | w + 1 => if (s >>> ((nI w).toInt64 &&& 63)) &&& 1 = 1 then
      (if (maF what s w).1 = -1 then cntF (nI w).toInt64 32 else if (maF what s w).1 ≤ cntF (nI w).toInt64 32 then (maF what s w).1 else cntF (nI w).toInt64 32,
       if cntF (nI w).toInt64 32 ≤ (maF what s w).2.1 then (maF what s w).2.1 else cntF (nI w).toInt64 32,
       (maF what s w).2.2 + if cntF (nI w).toInt64 32 = what - 2 then 1 else 0)
    else maF what s w
def cNm (i : Nat) : Bool := Nat.beq i 18 || Nat.beq i 39 || Nat.beq i 46
def manF (what : Int32) (s : Int64) : Int32 := if (maF what s 32).1 = -1 then -1 else if what = 0 then (maF what s 32).1 else if what = 1 then (maF what s 32).2.1 else (maF what s 32).2.2
theorem sub12 {i : Int32} (h : ¬ i < 12) (h2 : i ≤ 16) : ¬ i - 12 < 0 := by
  have e12 : (12 : Int32).toInt = 12 := by decide
  have e0 : (0 : Int32).toInt = 0 := by decide
  have e16 : (16 : Int32).toInt = 16 := by decide
  have h1 := Int32.le_iff_toInt_le.mp (Int32.not_lt.mp h)
  have h3 := Int32.le_iff_toInt_le.mp h2
  intro z
  have z := Int32.lt_iff_toInt_lt.mp z
  rw [Int32.toInt_sub, e12, e0] at z
  rw [e12] at h1
  rw [e16] at h3
  rw [Int.bmod_eq_of_le (by omega) (by omega)] at z
  omega
end MFR3
end
section
-- 65.mfr4
/-! THE REFERENCE's strangers, images, sheets, tape, over a new one -/
section MFR4
variable {l : Launch} {X : List (List Int32)} {S : CS} {M : MS} {hp : AH}
/-- the n-th world -/
def waF (s : Int64) : Nat → Nat → Int32 → Int32
  | 0, _, _ => -1
  | m + 1, w, left => if (s >>> ((nI w).toInt64 &&& 63)) &&& 1 = 1 then (if left = 0 then nI w else waF s m (w + 1) (left + Int32.ofInt (-1))) else waF s m (w + 1) left
set_option maxRecDepth 100000 in
theorem m_worldAt (s : Int64) (n : Int32) : Ans l 1 X sgX8_worldAt [.long s, .int n] hp (waF s 32 0 n) := by
  refine Ctr.of okX8_worldAt rfl (Nat.le_of_ble_eq_true rfl) (run_sound okX8_worldAt (fun i => Nat.beq i 4) 100 ?_)
  have key : ∀ j, j ≤ 32 → ∀ left, waF s (32 - j) j left = waF s 32 0 n → WP l (rmD 1 0 0) X sgX8_worldAt kX8_worldAt (fun h w => h = hp ∧ w = some (.int (waF s 32 0 n))) 4 [some (.long s), none, some (.int n), some (.int left), some (.int (nI j))] [] hp 0 0 := by
    refine down (fun left e => ?_) (fun j hj ih left e => ?_)
    · exact run_sound okX8_worldAt (fun i => Nat.beq i 4) 100 (brT (Int32.le_refl _) ⟨rfl, some_int e⟩)
    · rw [show 32 - j = (32 - (j + 1)) + 1 by omega, waF] at e
      refine run_sound okX8_worldAt (fun i => Nat.beq i 4) 100 (brF (ge_no (n := 32) rfl hj (by decide)) (kH (m_has _ _) (by decide) (brB' (fun h => ?_) (fun h => br (fun h0 => ?_) (fun h0 => ?_)))))
      · rw [if_neg h] at e
        have ih := ih left e
        rw [← nI_1 j] at ih
        exact ih
      · rw [if_pos h, if_pos h0] at e
        exact ⟨rfl, some_int e⟩
      · rw [if_pos h, if_neg h0] at e
        have ih := ih _ e
        rw [← nI_1 j] at ih
        exact ih
  exact key 0 (Nat.zero_le _) n rfl
theorem in110 {v : Int32} (h : (1 : Int32) ≤ v ∧ v ≤ 10) : ∃ n : Nat, n ≤ 10 ∧ v = nI n := by
  have h1 := Int32.le_iff_toInt_le.mp h.1
  have h2 := Int32.le_iff_toInt_le.mp h.2
  have e1 : (1 : Int32).toInt = 1 := by decide
  have e10 : (10 : Int32).toInt = 10 := by decide
  refine ⟨v.toInt.toNat, by omega, Int32.toInt_inj.mp ?_⟩
  rw [nI_toInt (by omega)]
  omega
theorem in03n {v : Int32} (h : p3P v) : ∃ a : Nat, a < 4 ∧ v = nI a := by
  rcases in03 h with rfl | rfl | rfl | rfl
  · exact ⟨0, by decide, rfl⟩
  · exact ⟨1, by decide, rfl⟩
  · exact ⟨2, by decide, rfl⟩
  · exact ⟨3, by decide, rfl⟩
theorem cell_in {a j n : Nat} (ha : a < 4) (hj : j < 40) (hn : n = 160) : vp_in (Int32.ofInt 40 * nI a + nI j) n := by
  rw [hn, show Int32.ofInt 40 * nI a = nI (40 * a) from nI_mul 40 a, nI_add]
  exact vp_nI (by omega) (by decide)
abbrev m2P (v : Int32) : Prop := (-1 : Int32) ≤ v ∧ v ≤ 2
end MFR4
end
section
-- 66.mfr5
/-! THE REFERENCE's tape, over a new one -/
section MFR5
variable {l : Launch} {X : List (List Int32)} {S : CS} {M : MS} {hp : AH}
abbrev byP (v : Int32) : Prop := (0 : Int32) ≤ v ∧ v ≤ 255
def cNf (i : Nat) : Bool := Nat.beq i 32 || Nat.beq i 59
end MFR5
end
section
-- 67.cfr
/-! THE CLASS's public methods, over a new one -/
section CFR
variable {l : Launch} {X : List (List Int32)} {S : CS} {T : AH} {hp : AH}
theorem bI_iff {p q : Prop} [Decidable p] [Decidable q] (h : p ↔ q) : bI p = bI q := by
  by_cases hp : p
  · rw [bI_t hp, bI_t (h.mp hp)]
  · rw [bI_f hp, bI_f (fun z => hp (h.mpr z))]
theorem ltle {a b c : Int32} (h : b.toInt = c.toInt + 1) : a < b ↔ a ≤ c := by
  rw [Int32.lt_iff_toInt_lt, Int32.le_iff_toInt_le, h]
  omega
theorem k_B (a b c : Int32) (h : b.toInt = c.toInt + 1) : Ans l 0 X sgX7_isBelow [.int a, .int b] hp (bI (0 ≤ a ∧ a ≤ c)) := by
  have q : Ans l 0 X sgX7_isBelow [.int a, .int b] hp (bI (0 ≤ a ∧ a < b)) := c_isBelow a b
  rw [bI_iff (show (0 ≤ a ∧ a < b) ↔ (0 ≤ a ∧ a ≤ c) from and_congr_right (fun _ => ltle h))] at q
  exact q
theorem CS0_len : CLen CS0 := by
  intro k
  show (match k with
    | 2 => z32 160 | 4 => z32 160 | 5 => z32 160 | 6 => z32 4 | 7 => z32 160
    | 10 => [-1, -1, -1, -1, -1] ++ z32 25 | 11 => z32 30 | 12 => [1, 1, 1, 1, 1] ++ z32 25
    | 14 => z32 5 | 15 => z32 5 | 16 => z32 36 | 18 => z32 5 | 19 => z32 5 | 20 => z32 36
    | 22 => [-1, -1, -1, -1] | 23 => z32 4 | 24 => z32 160 | 25 => z32 40 | _ => ([] : List Int32)).length ≤ 1000
  split <;> simp [z32]
theorem CS0_inv : CInv CS0 1 0 0 := ⟨CS0_len, rfl, ⟨by decide, by decide⟩, rfl, by decide, rfl, by decide⟩
/-- an answer, the reference as it was -/
abbrev cQ (T : AH) (v : Value) : AH → Option Value → Prop := fun h w => (∃ S', h = encC S' ++ T) ∧ w = some v
theorem lf {S : CS} {a b : Int32} (e : a = b) : cQ T (.int b) (encC S ++ T) (some (.int a)) := ⟨⟨S, rfl⟩, some_int e⟩
end CFR
end
section
-- 68.cfr2
/-! THE CLASS's talk and worlds, over a new one -/
section CFR2
variable {l : Launch} {X : List (List Int32)} {S : CS} {T : AH} {hp : AH}
set_option maxRecDepth 100000 in
theorem c_become13 (hL : CLen S) (s k m : Int32) : Ctr l 1 X sgX4_become [.ref 13, .int s, .int k, .int m] (encC S ++ T) (fun h w => h = encC (cR (cR S 14 (putF (S.2 14) s k)) 15 (putF (S.2 15) s m)) ++ T ∧ w = none) := by
  refine Ctr.of okX4_become rfl (Nat.le_of_ble_eq_true rfl) (run_sound okX4_become noCut 200 ?_)
  exact kH (c_put (xs := S.2 14) rfl rfl (Nat.lt_of_le_of_lt (hL 14) (by decide))) (by decide) (kH (c_put (xs := S.2 15) rfl rfl (Nat.lt_of_le_of_lt (hL 15) (by decide))) (by decide) ⟨rfl, rfl, rfl⟩)
set_option maxRecDepth 100000 in
theorem c_become17 (hL : CLen S) (s k m : Int32) : Ctr l 1 X sgX4_become [.ref 17, .int s, .int k, .int m] (encC S ++ T) (fun h w => h = encC (cR (cR S 18 (putF (S.2 18) s k)) 19 (putF (S.2 19) s m)) ++ T ∧ w = none) := by
  refine Ctr.of okX4_become rfl (Nat.le_of_ble_eq_true rfl) (run_sound okX4_become noCut 200 ?_)
  exact kH (c_put (xs := S.2 18) rfl rfl (Nat.lt_of_le_of_lt (hL 18) (by decide))) (by decide) (kH (c_put (xs := S.2 19) rfl rfl (Nat.lt_of_le_of_lt (hL 19) (by decide))) (by decide) ⟨rfl, rfl, rfl⟩)
/-- whether one is sure; all that are -/
def sureF (x a : Int32) : Int32 := if a = 0 then 0 else if a &&& atF soInL x = a then 1 else if a &&& atF soInL x = 0 then 1 else 0
set_option maxRecDepth 100000 in
theorem c_isSure (hX : X[0]? = some soInL) (x a : Int32) : Ans l 1 X sgX7_isSure [.int x, .int a] hp (sureF x a) := by
  refine Ctr.of okX7_isSure rfl (Nat.le_of_ble_eq_true rfl) (run_sound okX7_isSure noCut 200 ?_)
  refine kH (c_at (xs := soInL) hX (by decide)) (by decide) (br (fun h => ⟨rfl, rfl, some_int (if_pos h).symm⟩) (fun h => br (fun h2 => ⟨rfl, rfl, some_int ((if_neg h).trans (if_pos h2)).symm⟩) (fun h2 => br (fun h3 => ⟨rfl, rfl, some_int ((if_neg h).trans ((if_neg h2).trans (if_pos h3))).symm⟩) (fun h3 => ⟨rfl, rfl, some_int ((if_neg h).trans ((if_neg h2).trans (if_neg h3))).symm⟩))))
def thF (a inAll : Int32) : Nat → Int32
  | 0 => 0
  | x + 1 => if sureF (nI x) a = 0 then thF a inAll x else if bI (¬ a &&& atF soInL (nI x) = 0) = inAll then thF a inAll x ||| ((1 : Int32) <<< (nI x &&& 31)) else thF a inAll x
def cNth (i : Nat) : Bool := Nat.beq i 4 || Nat.beq i 16
set_option maxRecDepth 100000 in
theorem c_thingsSure (hX : X[0]? = some soInL) (a inAll : Int32) : Ans l 2 X sgX7_thingsSure [.int a, .int inAll] hp (thF a inAll 5) := by
  refine Ctr.of okX7_thingsSure rfl (Nat.le_of_ble_eq_true rfl) (run_sound okX7_thingsSure cNth 200 ?_)
  have key : ∀ j, j ≤ 5 → ∀ x4, WP l (rmD 2 0 0) X sgX7_thingsSure kX7_thingsSure (fun h w => h = hp ∧ w = some (.int (thF a inAll 5))) 4 [some (.int a), some (.int inAll), some (.int (thF a inAll j)), some (.int (nI j)), x4] [] hp 0 0 := by
    refine down (fun x4 => ?_) (fun j hj ih x4 => ?_)
    · exact run_sound okX7_thingsSure cNth 200 (brT (Int32.le_refl _) ⟨rfl, rfl⟩)
    · have t16 : ∀ v, v = bI (¬ a &&& atF soInL (nI j) = 0) → WP l (rmD 2 0 0) X sgX7_thingsSure kX7_thingsSure (fun h w => h = hp ∧ w = some (.int (thF a inAll 5))) 16 [some (.int a), some (.int inAll), some (.int (thF a inAll j)), some (.int (nI j)), x4] [.int v] hp 0 0 := by
        intro v hv
        have ih := ih (some (.int v))
        refine run_sound okX7_thingsSure (fun i => Nat.beq i 4) 200 (kH (c_isSure hX _ _) (by decide) (br (fun h => ?_) (fun h => br (fun h2 => ?_) (fun h2 => ?_))))
        · have h : sureF (nI j) a = 0 := h
          rw [show thF a inAll (j + 1) = thF a inAll j from if_pos h, ← nI_1 j] at ih
          exact ih
        · have h : ¬ sureF (nI j) a = 0 := h
          have h2 : v = inAll := h2
          rw [show thF a inAll (j + 1) = thF a inAll j ||| ((1 : Int32) <<< (nI j &&& 31)) from (if_neg h).trans (if_pos (hv.symm.trans h2)), ← nI_1 j] at ih
          exact ih
        · have h : ¬ sureF (nI j) a = 0 := h
          have h2 : ¬ v = inAll := h2
          rw [show thF a inAll (j + 1) = thF a inAll j from (if_neg h).trans (if_neg (fun z => h2 (hv.trans z))), ← nI_1 j] at ih
          exact ih
      refine run_sound okX7_thingsSure cNth 200 (brF (ge_no (n := 5) rfl hj (by decide)) (kH (c_at (xs := soInL) hX (by decide)) (by decide) (br (fun h => t16 _ (bI_f (fun z => z h)).symm) (fun h => t16 _ (bI_t h).symm))))
  exact key 0 (Nat.zero_le _) none
end CFR2
end
section
-- 69.cfr3
/-! THE CLASS's texts, sheets, strangers, images, tape, over a new one -/
section CFR3
variable {l : Launch} {X : List (List Int32)} {S : CS} {T : AH} {hp : AH}
set_option maxRecDepth 100000 in
theorem c_isMissing (hL : CLen S) (s : Int32) : Ans l 1 X sgX3_isMissing [.ref 21, .int s] (encC S ++ T) (bI (atF (S.2 22) s = -1)) := by
  refine Ctr.of okX3_isMissing rfl (Nat.le_of_ble_eq_true rfl) (run_sound okX3_isMissing noCut 200 ?_)
  exact kH (c_at (xs := S.2 22) rfl (Nat.lt_of_le_of_lt (hL 22) (by decide))) (by decide) (br (fun h => ⟨rfl, rfl, some_int (bIe1 h)⟩) (fun h => ⟨rfl, rfl, some_int (bIe0 h)⟩))
end CFR3
end
section
-- 70.cfr4
/-! THE CLASS's sheets made, strangers, images, tape, over a new one -/
section CFR4
variable {l : Launch} {X : List (List Int32)} {S : CS} {T : AH} {hp : AH}
set_option maxRecDepth 100000 in
theorem c_tape (hL : CLen S) (v : Int32) (h : S.1 11 < 160) : Ctr l 1 X sgX6_append [.ref 1, .int v] (encC S ++ T) (fun h w => h = encC (cN (cR S 2 (putF (S.2 2) (S.1 11) v)) 11 (S.1 11 + 1)) ++ T ∧ w = none) := by
  refine Ctr.of okX6_append rfl (Nat.le_of_ble_eq_true rfl) (run_sound okX6_append noCut 200 ?_)
  exact brT h (kH (c_put (xs := S.2 2) rfl rfl (Nat.lt_of_le_of_lt (hL 2) (by decide))) (by decide) (And.intro rfl (And.intro trivial ⟨rfl, rfl, rfl⟩)))
def cNg (i : Nat) : Bool := Nat.beq i 36 || Nat.beq i 61
end CFR4
end
section
-- 71.string
/-! THE STRING CONSTANTS: length and charAt, by the library's own code; what a word spells -/
section STRINGS
variable {l : Launch} {X : List (List Int32)} {S : CS} {T : AH} {hp : AH}
theorem lt7 {i : Nat} (h : i < 7) : i = 0 ∨ i = 1 ∨ i = 2 ∨ i = 3 ∨ i = 4 ∨ i = 5 ∨ i = 6 := by omega
set_option maxRecDepth 100000 in
theorem j_coder : ∀ i, i < 7 → Ans l 0 X sgJ0_coder_7d493 [.ref (1100 + i)] hp 0 := by
  intro i hi
  rcases lt7 hi with rfl | rfl | rfl | rfl | rfl | rfl | rfl
  all_goals
    refine Ctr.of okJ0_coder_7d493 rfl (Nat.le_of_ble_eq_true rfl) (run_sound okJ0_coder_7d493 noCut 100 ?_)
    exact brF (by decide) ⟨rfl, rfl, rfl⟩
set_option maxRecDepth 100000 in
theorem j_latin : ∀ i, i < 7 → Ans l 0 X sgJ0_isLatin1_aae02 [.ref (1100 + i)] hp 1 := by
  intro i hi
  rcases lt7 hi with rfl | rfl | rfl | rfl | rfl | rfl | rfl
  all_goals
    refine Ctr.of okJ0_isLatin1_aae02 rfl (Nat.le_of_ble_eq_true rfl) (run_sound okJ0_isLatin1_aae02 noCut 100 ?_)
    exact brF (by decide) (brT rfl ⟨rfl, rfl, rfl⟩)
set_option maxRecDepth 100000 in
theorem j_length : ∀ i, i < 7 → Ans l 1 X sgJ0_length_8abf5 [.ref (1100 + i)] hp (nI (lenS.getD i 0)) := by
  intro i hi
  have hc := j_coder (l := l) (X := X) (hp := hp) i hi
  rcases lt7 hi with rfl | rfl | rfl | rfl | rfl | rfl | rfl
  all_goals
    refine Ctr.of okJ0_length_8abf5 rfl (Nat.le_of_ble_eq_true rfl) (run_sound okJ0_length_8abf5 noCut 100 ?_)
    exact Exists.intro _ (And.intro rfl (kH hc (by decide) ⟨rfl, some_int (by decide)⟩))
set_option maxRecDepth 100000 in
theorem j_pre0 (k n : Int32) (h0 : ¬ k < 0) (h1 : k < n) : Ans l 0 X sgJ3_checkIndex_8e157 [.int k, .int n, .null] hp k := by
  refine Ctr.of okJ3_checkIndex_8e157 rfl (Nat.le_of_ble_eq_true rfl) (run_sound okJ3_checkIndex_8e157 noCut 100 ?_)
  exact brF h0 (brT h1 ⟨rfl, rfl⟩)
set_option maxRecDepth 100000 in
theorem j_pre1 (k n : Int32) (h0 : ¬ k < 0) (h1 : k < n) : Ans l 0 X sgJ3_checkIndex_8e157 [.int k, .int n, .ref 1300] hp k := by
  refine Ctr.of okJ3_checkIndex_8e157 rfl (Nat.le_of_ble_eq_true rfl) (run_sound okJ3_checkIndex_8e157 noCut 100 ?_)
  exact brF h0 (brT h1 ⟨rfl, rfl⟩)
set_option maxRecDepth 100000 in
theorem j_check (k n : Int32) (h0 : ¬ k < 0) (h1 : k < n) : Ctr l 1 X sgJ0_checkIndex_df160 [.int k, .int n] hp (fun h w => h = hp ∧ w = none) := by
  refine Ctr.of okJ0_checkIndex_df160 rfl (Nat.le_of_ble_eq_true rfl) (run_sound okJ0_checkIndex_df160 noCut 100 ?_)
  exact And.intro (kH (j_pre0 k n h0 h1) (by decide) (And.intro rfl ⟨rfl, rfl, rfl⟩)) (kH (j_pre1 k n h0 h1) (by decide) (And.intro rfl ⟨rfl, rfl, rfl⟩))
def chS (i j : Nat) : Int32 := (bytS.getD i []).getD j 0
theorem chS_ok : ∀ i : Fin 7, ∀ j : Fin 5, ((chS i.val j.val &&& 255).toUInt32 % 65536).toInt32 = chS i.val j.val ∧ narrow .char (.int (chS i.val j.val)) = .int (chS i.val j.val) := by decide +kernel
theorem lenS_5 : ∀ i : Fin 7, lenS.getD i.val 0 ≤ 5 := by decide
theorem j_ch {i j : Nat} (hi : i < 7) (hj : j < lenS.getD i 0) : (((bytS.getD i []).getD (nI j).toNatClampNeg 0 &&& 255).toUInt32 % 65536).toInt32 = chS i j ∧ narrow .char (.int (((bytS.getD i []).getD (nI j).toNatClampNeg 0 &&& 255).toUInt32 % 65536).toInt32) = .int (((bytS.getD i []).getD (nI j).toNatClampNeg 0 &&& 255).toUInt32 % 65536).toInt32 := by
  have h5 : j < 5 := Nat.lt_of_lt_of_le hj (lenS_5 ⟨i, hi⟩)
  have h := chS_ok ⟨i, hi⟩ ⟨j, h5⟩
  rw [nI_clamp (by omega)]
  have e : ((bytS.getD i []).getD j 0 &&& 255).toUInt32 % 65536 = ((bytS.getD i []).getD j 0 &&& 255).toUInt32 % 65536 := rfl
  have h1 : (((bytS.getD i []).getD j 0 &&& 255).toUInt32 % 65536).toInt32 = chS i j := h.1
  rw [h1]
  exact ⟨rfl, h.2⟩
set_option maxRecDepth 100000 in
theorem j_lat : ∀ i, i < 7 → ∀ j, j < lenS.getD i 0 → Ans l 2 X sgJ1_charAt_3b067 [.ref (1200 + i), .int (nI j)] hp (chS i j) := by
  intro i hi j hj
  have h5 : j < 5 := Nat.lt_of_lt_of_le hj (lenS_5 ⟨i, hi⟩)
  have hc := j_check (l := l) (X := X) (hp := hp) (nI j) (Int32.ofNat (bytS.getD i []).length) (nI_pos (by omega)) (by rw [← byt_len ⟨i, hi⟩]; exact nI_lt hj (Nat.lt_of_le_of_lt (lenS_5 ⟨i, hi⟩) (by decide)))
  have hv : vp_in (nI j) (lenS.getD i 0) := vp_nI hj (Nat.lt_of_le_of_lt (lenS_5 ⟨i, hi⟩) (by decide))
  have hch := j_ch hi hj
  rcases lt7 hi with rfl | rfl | rfl | rfl | rfl | rfl | rfl
  all_goals
    refine Ctr.of okJ1_charAt_3b067 rfl (Nat.le_of_ble_eq_true rfl) (run_sound okJ1_charAt_3b067 noCut 100 ?_)
    exact Exists.intro _ (And.intro rfl (kH hc (by decide) (And.intro hv ⟨hch.2, rfl, some_int hch.1⟩)))
theorem ch_nar {i j : Nat} (hi : i < 7) (hj : j < lenS.getD i 0) : narrow .char (.int (chS i j)) = .int (chS i j) :=
  (chS_ok ⟨i, hi⟩ ⟨j, Nat.lt_of_lt_of_le hj (lenS_5 ⟨i, hi⟩)⟩).2
set_option maxRecDepth 100000 in
theorem j_charAt : ∀ i, i < 7 → ∀ j, j < lenS.getD i 0 → Ans l 3 X sgJ0_charAt_5068e [.ref (1100 + i), .int (nI j)] hp (chS i j) := by
  intro i hi j hj
  have h1 := j_latin (l := l) (X := X) (hp := hp) i hi
  have h2 := j_lat (l := l) (X := X) (hp := hp) i hi j hj
  have h3 := ch_nar hi hj
  rcases lt7 hi with rfl | rfl | rfl | rfl | rfl | rfl | rfl
  all_goals
    refine Ctr.of okJ0_charAt_5068e rfl (Nat.le_of_ble_eq_true rfl) (run_sound okJ0_charAt_5068e noCut 100 ?_)
    exact kH h1 (by decide) (brF (by decide) (kH h2 (by decide) ⟨h3, rfl, rfl⟩))
/-- whether what stands from a place on spells a word -/
def spL (tp : List Int32) (pl : Int32) (i : Nat) : Nat → Nat → Int32
  | 0, _ => 1
  | m + 1, j => if chS i j = atF tp (pl + nI j) then spL tp pl i m (j + 1) else 0
def spF (S : CS) (i : Nat) : Int32 := if nI (lenS.getD i 0) = S.1 15 - S.1 14 then spL (S.2 2) (S.1 14) i (lenS.getD i 0) 0 else 0
def cNsp (i : Nat) : Bool := Nat.beq i 14
set_option maxRecDepth 100000 in
theorem c_spells_0 (hL : CLen S) : Ans l 4 X sgX6_spells [.ref 1, .ref 1100] (encC S ++ T) (spF S 0) := by
  have h2 := Nat.lt_of_le_of_lt (hL 2) (show 1000 < 2 ^ 31 by decide)
  have jl : Ans l 1 X sgJ0_length_8abf5 [.ref 1100] (encC S ++ T) (nI 3) := j_length 0 (by decide)
  refine Ctr.of okX6_spells rfl (Nat.le_of_ble_eq_true rfl) (run_sound okX6_spells cNsp 100 ?_)
  refine kH jl (by decide) (br (fun h => ?_) (fun h => ⟨rfl, rfl, some_int (if_neg h).symm⟩))
  rw [show spF S 0 = spL (S.2 2) (S.1 14) 0 3 0 from if_pos h]
  have key : ∀ j, j ≤ 3 → spL (S.2 2) (S.1 14) 0 (3 - j) j = spL (S.2 2) (S.1 14) 0 3 0 → WP l (rmD 4 0 0) X sgX6_spells kX6_spells (fun h w => h = encC S ++ T ∧ w = some (.int (spL (S.2 2) (S.1 14) 0 3 0))) 14 [some (.ref 1), some (.ref 1100), some (.int (nI j))] [] (encC S ++ T) 0 0 := by
    refine down (fun e => ?_) (fun j hj ih e => ?_)
    · exact run_sound okX6_spells cNsp 100 (kH jl (by decide) (brT (Int32.le_refl _) ⟨rfl, rfl, some_int e⟩))
    · rw [show 3 - j = (3 - (j + 1)) + 1 by omega, spL] at e
      have jc : Ans l 3 X sgJ0_charAt_5068e [.ref 1100, .int (nI j)] (encC S ++ T) (chS 0 j) := j_charAt 0 (by decide) j hj
      refine run_sound okX6_spells cNsp 100 (kH jl (by decide) (brF (ge_no (n := 3) rfl hj (by decide)) (kH jc (by decide) (kH (c_at (xs := S.2 2) rfl h2) (by decide) (br (fun p => ?_) (fun p => ?_))))))
      · rw [if_pos (show chS 0 j = atF (S.2 2) (S.1 14 + nI j) from p)] at e
        have ih := ih e
        rw [← nI_1 j] at ih
        exact ih
      · rw [if_neg (show ¬ chS 0 j = atF (S.2 2) (S.1 14 + nI j) from p)] at e
        exact ⟨rfl, rfl, some_int e⟩
  exact key 0 (Nat.zero_le _) rfl
set_option maxRecDepth 100000 in
theorem c_spells_1 (hL : CLen S) : Ans l 4 X sgX6_spells [.ref 1, .ref 1101] (encC S ++ T) (spF S 1) := by
  have h2 := Nat.lt_of_le_of_lt (hL 2) (show 1000 < 2 ^ 31 by decide)
  have jl : Ans l 1 X sgJ0_length_8abf5 [.ref 1101] (encC S ++ T) (nI 4) := j_length 1 (by decide)
  refine Ctr.of okX6_spells rfl (Nat.le_of_ble_eq_true rfl) (run_sound okX6_spells cNsp 100 ?_)
  refine kH jl (by decide) (br (fun h => ?_) (fun h => ⟨rfl, rfl, some_int (if_neg h).symm⟩))
  rw [show spF S 1 = spL (S.2 2) (S.1 14) 1 4 0 from if_pos h]
  have key : ∀ j, j ≤ 4 → spL (S.2 2) (S.1 14) 1 (4 - j) j = spL (S.2 2) (S.1 14) 1 4 0 → WP l (rmD 4 0 0) X sgX6_spells kX6_spells (fun h w => h = encC S ++ T ∧ w = some (.int (spL (S.2 2) (S.1 14) 1 4 0))) 14 [some (.ref 1), some (.ref 1101), some (.int (nI j))] [] (encC S ++ T) 0 0 := by
    refine down (fun e => ?_) (fun j hj ih e => ?_)
    · exact run_sound okX6_spells cNsp 100 (kH jl (by decide) (brT (Int32.le_refl _) ⟨rfl, rfl, some_int e⟩))
    · rw [show 4 - j = (4 - (j + 1)) + 1 by omega, spL] at e
      have jc : Ans l 3 X sgJ0_charAt_5068e [.ref 1101, .int (nI j)] (encC S ++ T) (chS 1 j) := j_charAt 1 (by decide) j hj
      refine run_sound okX6_spells cNsp 100 (kH jl (by decide) (brF (ge_no (n := 4) rfl hj (by decide)) (kH jc (by decide) (kH (c_at (xs := S.2 2) rfl h2) (by decide) (br (fun p => ?_) (fun p => ?_))))))
      · rw [if_pos (show chS 1 j = atF (S.2 2) (S.1 14 + nI j) from p)] at e
        have ih := ih e
        rw [← nI_1 j] at ih
        exact ih
      · rw [if_neg (show ¬ chS 1 j = atF (S.2 2) (S.1 14 + nI j) from p)] at e
        exact ⟨rfl, rfl, some_int e⟩
  exact key 0 (Nat.zero_le _) rfl
set_option maxRecDepth 100000 in
theorem c_spells_2 (hL : CLen S) : Ans l 4 X sgX6_spells [.ref 1, .ref 1102] (encC S ++ T) (spF S 2) := by
  have h2 := Nat.lt_of_le_of_lt (hL 2) (show 1000 < 2 ^ 31 by decide)
  have jl : Ans l 1 X sgJ0_length_8abf5 [.ref 1102] (encC S ++ T) (nI 5) := j_length 2 (by decide)
  refine Ctr.of okX6_spells rfl (Nat.le_of_ble_eq_true rfl) (run_sound okX6_spells cNsp 100 ?_)
  refine kH jl (by decide) (br (fun h => ?_) (fun h => ⟨rfl, rfl, some_int (if_neg h).symm⟩))
  rw [show spF S 2 = spL (S.2 2) (S.1 14) 2 5 0 from if_pos h]
  have key : ∀ j, j ≤ 5 → spL (S.2 2) (S.1 14) 2 (5 - j) j = spL (S.2 2) (S.1 14) 2 5 0 → WP l (rmD 4 0 0) X sgX6_spells kX6_spells (fun h w => h = encC S ++ T ∧ w = some (.int (spL (S.2 2) (S.1 14) 2 5 0))) 14 [some (.ref 1), some (.ref 1102), some (.int (nI j))] [] (encC S ++ T) 0 0 := by
    refine down (fun e => ?_) (fun j hj ih e => ?_)
    · exact run_sound okX6_spells cNsp 100 (kH jl (by decide) (brT (Int32.le_refl _) ⟨rfl, rfl, some_int e⟩))
    · rw [show 5 - j = (5 - (j + 1)) + 1 by omega, spL] at e
      have jc : Ans l 3 X sgJ0_charAt_5068e [.ref 1102, .int (nI j)] (encC S ++ T) (chS 2 j) := j_charAt 2 (by decide) j hj
      refine run_sound okX6_spells cNsp 100 (kH jl (by decide) (brF (ge_no (n := 5) rfl hj (by decide)) (kH jc (by decide) (kH (c_at (xs := S.2 2) rfl h2) (by decide) (br (fun p => ?_) (fun p => ?_))))))
      · rw [if_pos (show chS 2 j = atF (S.2 2) (S.1 14 + nI j) from p)] at e
        have ih := ih e
        rw [← nI_1 j] at ih
        exact ih
      · rw [if_neg (show ¬ chS 2 j = atF (S.2 2) (S.1 14 + nI j) from p)] at e
        exact ⟨rfl, rfl, some_int e⟩
  exact key 0 (Nat.zero_le _) rfl
set_option maxRecDepth 100000 in
theorem c_spells_3 (hL : CLen S) : Ans l 4 X sgX6_spells [.ref 1, .ref 1103] (encC S ++ T) (spF S 3) := by
  have h2 := Nat.lt_of_le_of_lt (hL 2) (show 1000 < 2 ^ 31 by decide)
  have jl : Ans l 1 X sgJ0_length_8abf5 [.ref 1103] (encC S ++ T) (nI 5) := j_length 3 (by decide)
  refine Ctr.of okX6_spells rfl (Nat.le_of_ble_eq_true rfl) (run_sound okX6_spells cNsp 100 ?_)
  refine kH jl (by decide) (br (fun h => ?_) (fun h => ⟨rfl, rfl, some_int (if_neg h).symm⟩))
  rw [show spF S 3 = spL (S.2 2) (S.1 14) 3 5 0 from if_pos h]
  have key : ∀ j, j ≤ 5 → spL (S.2 2) (S.1 14) 3 (5 - j) j = spL (S.2 2) (S.1 14) 3 5 0 → WP l (rmD 4 0 0) X sgX6_spells kX6_spells (fun h w => h = encC S ++ T ∧ w = some (.int (spL (S.2 2) (S.1 14) 3 5 0))) 14 [some (.ref 1), some (.ref 1103), some (.int (nI j))] [] (encC S ++ T) 0 0 := by
    refine down (fun e => ?_) (fun j hj ih e => ?_)
    · exact run_sound okX6_spells cNsp 100 (kH jl (by decide) (brT (Int32.le_refl _) ⟨rfl, rfl, some_int e⟩))
    · rw [show 5 - j = (5 - (j + 1)) + 1 by omega, spL] at e
      have jc : Ans l 3 X sgJ0_charAt_5068e [.ref 1103, .int (nI j)] (encC S ++ T) (chS 3 j) := j_charAt 3 (by decide) j hj
      refine run_sound okX6_spells cNsp 100 (kH jl (by decide) (brF (ge_no (n := 5) rfl hj (by decide)) (kH jc (by decide) (kH (c_at (xs := S.2 2) rfl h2) (by decide) (br (fun p => ?_) (fun p => ?_))))))
      · rw [if_pos (show chS 3 j = atF (S.2 2) (S.1 14 + nI j) from p)] at e
        have ih := ih e
        rw [← nI_1 j] at ih
        exact ih
      · rw [if_neg (show ¬ chS 3 j = atF (S.2 2) (S.1 14 + nI j) from p)] at e
        exact ⟨rfl, rfl, some_int e⟩
  exact key 0 (Nat.zero_le _) rfl
set_option maxRecDepth 100000 in
theorem c_spells_4 (hL : CLen S) : Ans l 4 X sgX6_spells [.ref 1, .ref 1104] (encC S ++ T) (spF S 4) := by
  have h2 := Nat.lt_of_le_of_lt (hL 2) (show 1000 < 2 ^ 31 by decide)
  have jl : Ans l 1 X sgJ0_length_8abf5 [.ref 1104] (encC S ++ T) (nI 2) := j_length 4 (by decide)
  refine Ctr.of okX6_spells rfl (Nat.le_of_ble_eq_true rfl) (run_sound okX6_spells cNsp 100 ?_)
  refine kH jl (by decide) (br (fun h => ?_) (fun h => ⟨rfl, rfl, some_int (if_neg h).symm⟩))
  rw [show spF S 4 = spL (S.2 2) (S.1 14) 4 2 0 from if_pos h]
  have key : ∀ j, j ≤ 2 → spL (S.2 2) (S.1 14) 4 (2 - j) j = spL (S.2 2) (S.1 14) 4 2 0 → WP l (rmD 4 0 0) X sgX6_spells kX6_spells (fun h w => h = encC S ++ T ∧ w = some (.int (spL (S.2 2) (S.1 14) 4 2 0))) 14 [some (.ref 1), some (.ref 1104), some (.int (nI j))] [] (encC S ++ T) 0 0 := by
    refine down (fun e => ?_) (fun j hj ih e => ?_)
    · exact run_sound okX6_spells cNsp 100 (kH jl (by decide) (brT (Int32.le_refl _) ⟨rfl, rfl, some_int e⟩))
    · rw [show 2 - j = (2 - (j + 1)) + 1 by omega, spL] at e
      have jc : Ans l 3 X sgJ0_charAt_5068e [.ref 1104, .int (nI j)] (encC S ++ T) (chS 4 j) := j_charAt 4 (by decide) j hj
      refine run_sound okX6_spells cNsp 100 (kH jl (by decide) (brF (ge_no (n := 2) rfl hj (by decide)) (kH jc (by decide) (kH (c_at (xs := S.2 2) rfl h2) (by decide) (br (fun p => ?_) (fun p => ?_))))))
      · rw [if_pos (show chS 4 j = atF (S.2 2) (S.1 14 + nI j) from p)] at e
        have ih := ih e
        rw [← nI_1 j] at ih
        exact ih
      · rw [if_neg (show ¬ chS 4 j = atF (S.2 2) (S.1 14 + nI j) from p)] at e
        exact ⟨rfl, rfl, some_int e⟩
  exact key 0 (Nat.zero_le _) rfl
set_option maxRecDepth 100000 in
theorem c_spells_5 (hL : CLen S) : Ans l 4 X sgX6_spells [.ref 1, .ref 1105] (encC S ++ T) (spF S 5) := by
  have h2 := Nat.lt_of_le_of_lt (hL 2) (show 1000 < 2 ^ 31 by decide)
  have jl : Ans l 1 X sgJ0_length_8abf5 [.ref 1105] (encC S ++ T) (nI 3) := j_length 5 (by decide)
  refine Ctr.of okX6_spells rfl (Nat.le_of_ble_eq_true rfl) (run_sound okX6_spells cNsp 100 ?_)
  refine kH jl (by decide) (br (fun h => ?_) (fun h => ⟨rfl, rfl, some_int (if_neg h).symm⟩))
  rw [show spF S 5 = spL (S.2 2) (S.1 14) 5 3 0 from if_pos h]
  have key : ∀ j, j ≤ 3 → spL (S.2 2) (S.1 14) 5 (3 - j) j = spL (S.2 2) (S.1 14) 5 3 0 → WP l (rmD 4 0 0) X sgX6_spells kX6_spells (fun h w => h = encC S ++ T ∧ w = some (.int (spL (S.2 2) (S.1 14) 5 3 0))) 14 [some (.ref 1), some (.ref 1105), some (.int (nI j))] [] (encC S ++ T) 0 0 := by
    refine down (fun e => ?_) (fun j hj ih e => ?_)
    · exact run_sound okX6_spells cNsp 100 (kH jl (by decide) (brT (Int32.le_refl _) ⟨rfl, rfl, some_int e⟩))
    · rw [show 3 - j = (3 - (j + 1)) + 1 by omega, spL] at e
      have jc : Ans l 3 X sgJ0_charAt_5068e [.ref 1105, .int (nI j)] (encC S ++ T) (chS 5 j) := j_charAt 5 (by decide) j hj
      refine run_sound okX6_spells cNsp 100 (kH jl (by decide) (brF (ge_no (n := 3) rfl hj (by decide)) (kH jc (by decide) (kH (c_at (xs := S.2 2) rfl h2) (by decide) (br (fun p => ?_) (fun p => ?_))))))
      · rw [if_pos (show chS 5 j = atF (S.2 2) (S.1 14 + nI j) from p)] at e
        have ih := ih e
        rw [← nI_1 j] at ih
        exact ih
      · rw [if_neg (show ¬ chS 5 j = atF (S.2 2) (S.1 14 + nI j) from p)] at e
        exact ⟨rfl, rfl, some_int e⟩
  exact key 0 (Nat.zero_le _) rfl
set_option maxRecDepth 100000 in
theorem c_spells_6 (hL : CLen S) : Ans l 4 X sgX6_spells [.ref 1, .ref 1106] (encC S ++ T) (spF S 6) := by
  have h2 := Nat.lt_of_le_of_lt (hL 2) (show 1000 < 2 ^ 31 by decide)
  have jl : Ans l 1 X sgJ0_length_8abf5 [.ref 1106] (encC S ++ T) (nI 3) := j_length 6 (by decide)
  refine Ctr.of okX6_spells rfl (Nat.le_of_ble_eq_true rfl) (run_sound okX6_spells cNsp 100 ?_)
  refine kH jl (by decide) (br (fun h => ?_) (fun h => ⟨rfl, rfl, some_int (if_neg h).symm⟩))
  rw [show spF S 6 = spL (S.2 2) (S.1 14) 6 3 0 from if_pos h]
  have key : ∀ j, j ≤ 3 → spL (S.2 2) (S.1 14) 6 (3 - j) j = spL (S.2 2) (S.1 14) 6 3 0 → WP l (rmD 4 0 0) X sgX6_spells kX6_spells (fun h w => h = encC S ++ T ∧ w = some (.int (spL (S.2 2) (S.1 14) 6 3 0))) 14 [some (.ref 1), some (.ref 1106), some (.int (nI j))] [] (encC S ++ T) 0 0 := by
    refine down (fun e => ?_) (fun j hj ih e => ?_)
    · exact run_sound okX6_spells cNsp 100 (kH jl (by decide) (brT (Int32.le_refl _) ⟨rfl, rfl, some_int e⟩))
    · rw [show 3 - j = (3 - (j + 1)) + 1 by omega, spL] at e
      have jc : Ans l 3 X sgJ0_charAt_5068e [.ref 1106, .int (nI j)] (encC S ++ T) (chS 6 j) := j_charAt 6 (by decide) j hj
      refine run_sound okX6_spells cNsp 100 (kH jl (by decide) (brF (ge_no (n := 3) rfl hj (by decide)) (kH jc (by decide) (kH (c_at (xs := S.2 2) rfl h2) (by decide) (br (fun p => ?_) (fun p => ?_))))))
      · rw [if_pos (show chS 6 j = atF (S.2 2) (S.1 14 + nI j) from p)] at e
        have ih := ih e
        rw [← nI_1 j] at ih
        exact ih
      · rw [if_neg (show ¬ chS 6 j = atF (S.2 2) (S.1 14 + nI j) from p)] at e
        exact ⟨rfl, rfl, some_int e⟩
  exact key 0 (Nat.zero_le _) rfl
end STRINGS
end
section
-- 72.lex
/-! THE CLASS's tokens -/
section LEX
variable {l : Launch} {X : List (List Int32)} {S : CS} {T : AH} {hp : AH}
theorem atF_nI (xs : List Int32) {n : Nat} (h : n < 2 ^ 31) : atF xs (nI n) = xs.getD n 0 := by
  unfold atF
  rw [if_pos (nI_pos' h), nI_clamp h]
set_option maxRecDepth 100000 in
theorem c_isBlank (c : Int32) : Ans l 0 X sgX6_isBlank [.int c] hp (bI (c = 32 ∨ c = 10)) := by
  refine Ctr.of okX6_isBlank rfl (Nat.le_of_ble_eq_true rfl) (run_sound okX6_isBlank noCut 100 ?_)
  exact br (fun h => ⟨rfl, rfl, some_int (bIe1 (Or.inl h))⟩) (fun h => br (fun h2 => ⟨rfl, rfl, some_int (bIe1 (Or.inr h2))⟩) (fun h2 => ⟨rfl, rfl, some_int (bIe0 (fun z => z.elim h h2))⟩))
set_option maxRecDepth 100000 in
theorem c_isLetter (c : Int32) : Ans l 0 X sgX6_isLetter [.int c] hp (bI (isLet c)) := by
  refine Ctr.of okX6_isLetter rfl (Nat.le_of_ble_eq_true rfl) (run_sound okX6_isLetter noCut 100 ?_)
  exact br (fun h => ⟨rfl, rfl, some_int (bIe0 (fun z => absurd h (Int32.not_lt.mpr z.1)))⟩) (fun h => br (fun h2 => ⟨rfl, rfl, some_int (bIe0 (fun z => absurd h2 (Int32.not_lt.mpr z.2)))⟩) (fun h2 => ⟨rfl, rfl, some_int (bIe1 ⟨Int32.not_lt.mp h, Int32.not_lt.mp h2⟩)⟩))
set_option maxRecDepth 100000 in
theorem c_isDigit (c : Int32) : Ans l 0 X sgX6_isDigit [.int c] hp (bI (isDig c)) := by
  refine Ctr.of okX6_isDigit rfl (Nat.le_of_ble_eq_true rfl) (run_sound okX6_isDigit noCut 100 ?_)
  exact br (fun h => ⟨rfl, rfl, some_int (bIe0 (fun z => absurd h (Int32.not_lt.mpr z.1)))⟩) (fun h => br (fun h2 => ⟨rfl, rfl, some_int (bIe0 (fun z => absurd h2 (Int32.not_lt.mpr z.2)))⟩) (fun h2 => ⟨rfl, rfl, some_int (bIe1 ⟨Int32.not_lt.mp h, Int32.not_lt.mp h2⟩)⟩))
def sgC (c : Int32) : Bool := c == 40 || c == 41 || c == 42 || c == 43 || c == 45 || c == 59 || c == 60 || c == 61
set_option maxRecDepth 100000 in
theorem c_isSign (c : Int32) : Ans l 0 X sgX6_isSign [.int c] hp (bB (sgC c)) := by
  refine Ctr.of okX6_isSign rfl (Nat.le_of_ble_eq_true rfl) (run_sound okX6_isSign noCut 100 ?_)
  refine And.intro (fun h => ⟨rfl, rfl, some_int ?_⟩) ?_
  · have no : ∀ k : Int32, 40 ≤ k.toInt → k.toInt ≤ 61 → ¬ c = k := fun k h1 h2 z => by subst z; omega
    have e : sgC c = false := by
      unfold sgC
      simp only [Bool.or_eq_false_iff, beq_eq_false_iff_ne]
      exact ⟨⟨⟨⟨⟨⟨⟨no _ (by decide) (by decide), no _ (by decide) (by decide)⟩, no _ (by decide) (by decide)⟩, no _ (by decide) (by decide)⟩, no _ (by decide) (by decide)⟩, no _ (by decide) (by decide)⟩, no _ (by decide) (by decide)⟩, no _ (by decide) (by decide)⟩
    rw [e]
    rfl
  refine And.intro (fun h => by subst h; exact ⟨rfl, rfl, rfl⟩) ?_
  refine And.intro (fun h => by subst h; exact ⟨rfl, rfl, rfl⟩) ?_
  refine And.intro (fun h => by subst h; exact ⟨rfl, rfl, rfl⟩) ?_
  refine And.intro (fun h => by subst h; exact ⟨rfl, rfl, rfl⟩) ?_
  refine And.intro (fun h => by subst h; exact ⟨rfl, rfl, rfl⟩) ?_
  refine And.intro (fun h => by subst h; exact ⟨rfl, rfl, rfl⟩) ?_
  refine And.intro (fun h => by subst h; exact ⟨rfl, rfl, rfl⟩) ?_
  refine And.intro (fun h => by subst h; exact ⟨rfl, rfl, rfl⟩) ?_
  refine And.intro (fun h => by subst h; exact ⟨rfl, rfl, rfl⟩) ?_
  refine And.intro (fun h => by subst h; exact ⟨rfl, rfl, rfl⟩) ?_
  refine And.intro (fun h => by subst h; exact ⟨rfl, rfl, rfl⟩) ?_
  refine And.intro (fun h => by subst h; exact ⟨rfl, rfl, rfl⟩) ?_
  refine And.intro (fun h => by subst h; exact ⟨rfl, rfl, rfl⟩) ?_
  refine And.intro (fun h => by subst h; exact ⟨rfl, rfl, rfl⟩) ?_
  refine And.intro (fun h => by subst h; exact ⟨rfl, rfl, rfl⟩) ?_
  refine And.intro (fun h => by subst h; exact ⟨rfl, rfl, rfl⟩) ?_
  refine And.intro (fun h => by subst h; exact ⟨rfl, rfl, rfl⟩) ?_
  refine And.intro (fun h => by subst h; exact ⟨rfl, rfl, rfl⟩) ?_
  refine And.intro (fun h => by subst h; exact ⟨rfl, rfl, rfl⟩) ?_
  refine And.intro (fun h => by subst h; exact ⟨rfl, rfl, rfl⟩) ?_
  refine And.intro (fun h => by subst h; exact ⟨rfl, rfl, rfl⟩) ?_
  refine And.intro (fun h => by subst h; exact ⟨rfl, rfl, rfl⟩) ?_
  exact trivial
abbrev wThing (tp : List Int32) (b e : Nat) : Prop := nI e - nI b = 1 ∧ atF tp (nI b) - 97 < 5
def spN (tp : List Int32) (b e i : Nat) : Int32 := if nI (lenS.getD i 0) = nI e - nI b then spL tp (nI b) i (lenS.getD i 0) 0 else 0
def wVal (tp : List Int32) (b e : Nat) : Int32 := if wThing tp b e then atF tp (nI b) - 97 else 5
def wSp (tp : List Int32) (b e : Nat) : Int32 :=
  if ¬ spN tp b e 0 = 0 then 3 else if ¬ spN tp b e 1 = 0 then 4 else if ¬ spN tp b e 2 = 0 then 5 else if ¬ spN tp b e 3 = 0 then 6
  else if ¬ spN tp b e 4 = 0 then 7 else if ¬ spN tp b e 5 = 0 then 8 else if ¬ spN tp b e 6 = 0 then 9 else 1
def wSort (tp : List Int32) (b e : Nat) : Int32 := if wThing tp b e then 3 else wSp tp b e
abbrev kV (h1 : AH) : AH → Option Value → Prop := fun h w => h = h1 ∧ w = none
def cNw (i : Nat) : Bool := Nat.beq i 6 || Nat.beq i 29 || Nat.beq i 50 || Nat.beq i 57 || Nat.beq i 60
theorem spF_N {S : CS} {b e : Nat} (h14 : S.1 14 = nI b) (h15 : S.1 15 = nI e) (i : Nat) : spF S i = spN (S.2 2) b e i := by
  unfold spF spN
  rw [h14, h15]
set_option maxRecDepth 100000 in
set_option maxHeartbeats 4000000 in
theorem c_readWord (hL : CLen S) {t b : Nat} (ht : S.1 11 = nI t) (ht2 : t ≤ 160) (hb : S.1 14 = nI b) (hbt : b ≤ t) :
    Ctr l 5 X sgX6_readWord [.ref 1] (encC S ++ T) (kV (encC (cN (cN (cN S 15 (nI (runW (S.2 2) (t - b) b))) 13 (wVal (S.2 2) b (runW (S.2 2) (t - b) b))) 12 (wSort (S.2 2) b (runW (S.2 2) (t - b) b))) ++ T)) := by
  obtain ⟨e, he⟩ : ∃ e, runW (S.2 2) (t - b) b = e := ⟨_, rfl⟩
  rw [he]
  have h2 := Nat.lt_of_le_of_lt (hL 2) (show 1000 < 2 ^ 31 by decide)
  have t60 : ¬ wThing (S.2 2) b e → ∀ x1, WP l (rmD 5 0 0) X sgX6_readWord kX6_readWord (kV (encC (cN (cN (cN S 15 (nI e)) 13 (wVal (S.2 2) b e)) 12 (wSort (S.2 2) b e)) ++ T)) 60 [some (.ref 1), x1, some (.int 0)] [] (encC (cN (cN S 15 (nI e)) 13 (wVal (S.2 2) b e)) ++ T) 0 0 := by
    intro hn x1
    obtain ⟨v, hv⟩ : ∃ v, wVal (S.2 2) b e = v := ⟨_, rfl⟩
    rw [hv]
    have sp : ∀ i, spF (cN (cN S 15 (nI e)) 13 v) i = spN (S.2 2) b e i := fun i => spF_N (S := cN (cN S 15 (nI e)) 13 v) hb rfl i
    have c0 := c_spells_0 (l := l) (X := X) (S := cN (cN S 15 (nI e)) 13 v) (T := T) hL
    have c1 := c_spells_1 (l := l) (X := X) (S := cN (cN S 15 (nI e)) 13 v) (T := T) hL
    have c2 := c_spells_2 (l := l) (X := X) (S := cN (cN S 15 (nI e)) 13 v) (T := T) hL
    have c3 := c_spells_3 (l := l) (X := X) (S := cN (cN S 15 (nI e)) 13 v) (T := T) hL
    have c4 := c_spells_4 (l := l) (X := X) (S := cN (cN S 15 (nI e)) 13 v) (T := T) hL
    have c5 := c_spells_5 (l := l) (X := X) (S := cN (cN S 15 (nI e)) 13 v) (T := T) hL
    have c6 := c_spells_6 (l := l) (X := X) (S := cN (cN S 15 (nI e)) 13 v) (T := T) hL
    rw [sp] at c0 c1 c2 c3 c4 c5 c6
    rw [show wSort (S.2 2) b e = wSp (S.2 2) b e from if_neg hn]
    unfold wSp
    generalize spN (S.2 2) b e 0 = v0 at c0 ⊢
    generalize spN (S.2 2) b e 1 = v1 at c1 ⊢
    generalize spN (S.2 2) b e 2 = v2 at c2 ⊢
    generalize spN (S.2 2) b e 3 = v3 at c3 ⊢
    generalize spN (S.2 2) b e 4 = v4 at c4 ⊢
    generalize spN (S.2 2) b e 5 = v5 at c5 ⊢
    generalize spN (S.2 2) b e 6 = v6 at c6 ⊢
    clear sp
    by_cases q0 : v0 = 0
    · rw [if_neg (fun z => z q0)]
      by_cases q1 : v1 = 0
      · rw [if_neg (fun z => z q1)]
        by_cases q2 : v2 = 0
        · rw [if_neg (fun z => z q2)]
          by_cases q3 : v3 = 0
          · rw [if_neg (fun z => z q3)]
            by_cases q4 : v4 = 0
            · rw [if_neg (fun z => z q4)]
              by_cases q5 : v5 = 0
              · rw [if_neg (fun z => z q5)]
                by_cases q6 : v6 = 0
                · rw [if_neg (fun z => z q6)]
                  exact run_sound okX6_readWord noCut 200 (kH c0 (by decide) (brT q0 (kH c1 (by decide) (brT q1 (kH c2 (by decide) (brT q2 (kH c3 (by decide) (brT q3 (kH c4 (by decide) (brT q4 (kH c5 (by decide) (brT q5 (kH c6 (by decide) (brT q6 (And.intro trivial ⟨rfl, rfl, rfl⟩)))))))))))))))
                · rw [if_pos q6]
                  exact run_sound okX6_readWord noCut 200 (kH c0 (by decide) (brT q0 (kH c1 (by decide) (brT q1 (kH c2 (by decide) (brT q2 (kH c3 (by decide) (brT q3 (kH c4 (by decide) (brT q4 (kH c5 (by decide) (brT q5 (kH c6 (by decide) (brF q6 (And.intro trivial ⟨rfl, rfl, rfl⟩)))))))))))))))
              · rw [if_pos q5]
                exact run_sound okX6_readWord noCut 200 (kH c0 (by decide) (brT q0 (kH c1 (by decide) (brT q1 (kH c2 (by decide) (brT q2 (kH c3 (by decide) (brT q3 (kH c4 (by decide) (brT q4 (kH c5 (by decide) (brF q5 (And.intro trivial ⟨rfl, rfl, rfl⟩)))))))))))))
            · rw [if_pos q4]
              exact run_sound okX6_readWord noCut 200 (kH c0 (by decide) (brT q0 (kH c1 (by decide) (brT q1 (kH c2 (by decide) (brT q2 (kH c3 (by decide) (brT q3 (kH c4 (by decide) (brF q4 (And.intro trivial ⟨rfl, rfl, rfl⟩)))))))))))
          · rw [if_pos q3]
            exact run_sound okX6_readWord noCut 200 (kH c0 (by decide) (brT q0 (kH c1 (by decide) (brT q1 (kH c2 (by decide) (brT q2 (kH c3 (by decide) (brF q3 (And.intro trivial ⟨rfl, rfl, rfl⟩)))))))))
        · rw [if_pos q2]
          exact run_sound okX6_readWord noCut 200 (kH c0 (by decide) (brT q0 (kH c1 (by decide) (brT q1 (kH c2 (by decide) (brF q2 (And.intro trivial ⟨rfl, rfl, rfl⟩)))))))
      · rw [if_pos q1]
        exact run_sound okX6_readWord noCut 200 (kH c0 (by decide) (brT q0 (kH c1 (by decide) (brF q1 (And.intro trivial ⟨rfl, rfl, rfl⟩)))))
    · rw [if_pos q0]
      exact run_sound okX6_readWord noCut 200 (kH c0 (by decide) (brF q0 (And.intro trivial ⟨rfl, rfl, rfl⟩)))
  have t29 : ∀ x1, WP l (rmD 5 0 0) X sgX6_readWord kX6_readWord (kV (encC (cN (cN (cN S 15 (nI e)) 13 (wVal (S.2 2) b e)) 12 (wSort (S.2 2) b e)) ++ T)) 29 [some (.ref 1), some (.int x1), none] [] (encC (cN S 15 (nI e)) ++ T) 0 0 := by
    intro x1
    have ca : Ans l 0 X sgX7_at [.ref 2, .int (S.1 14)] (encC (cN S 15 (nI e)) ++ T) (atF (S.2 2) (nI b)) := by rw [← hb]; exact c_at (xs := S.2 2) rfl h2
    have yes : wThing (S.2 2) b e → WP l (rmD 5 0 0) X sgX6_readWord kX6_readWord (kV (encC (cN (cN (cN S 15 (nI e)) 13 (wVal (S.2 2) b e)) 12 (wSort (S.2 2) b e)) ++ T)) 50 [some (.ref 1), some (.int (atF (S.2 2) (nI b) - 97)), none] [.int 1] (encC (cN S 15 (nI e)) ++ T) 0 0 := by
      intro hw
      rw [show wVal (S.2 2) b e = atF (S.2 2) (nI b) - 97 from if_pos hw, show wSort (S.2 2) b e = 3 from if_pos hw]
      exact run_sound okX6_readWord (fun i => Nat.beq i 60) 200 (brF (by decide) (And.intro trivial (brF (by decide) (And.intro trivial ⟨rfl, rfl, rfl⟩))))
    have no : ¬ wThing (S.2 2) b e → WP l (rmD 5 0 0) X sgX6_readWord kX6_readWord (kV (encC (cN (cN (cN S 15 (nI e)) 13 (wVal (S.2 2) b e)) 12 (wSort (S.2 2) b e)) ++ T)) 50 [some (.ref 1), some (.int (atF (S.2 2) (nI b) - 97)), none] [.int 0] (encC (cN S 15 (nI e)) ++ T) 0 0 := by
      intro hw
      have q := t60 hw (some (.int (atF (S.2 2) (nI b) - 97)))
      rw [show wVal (S.2 2) b e = 5 from if_neg hw] at q ⊢
      exact run_sound okX6_readWord (fun i => Nat.beq i 60) 200 (brT rfl (And.intro trivial (brT rfl q)))
    refine run_sound okX6_readWord (fun i => Nat.beq i 50) 200 (kH ca (by decide) (br (fun h => ?_) (fun h => ?_)))
    · have h : nI e - S.1 14 = 1 := h
      rw [hb] at h
      exact br (fun h3 => no (fun z => absurd z.2 (Int32.not_lt.mpr h3))) (fun h3 => yes ⟨h, Int32.not_le.mp h3⟩)
    · have h : ¬ nI e - S.1 14 = 1 := h
      rw [hb] at h
      exact no (fun z => h z.1)
  refine Ctr.of okX6_readWord rfl (Nat.le_of_ble_eq_true rfl) (run_sound okX6_readWord cNw 200 ?_)
  have key : ∀ a, a ≤ t → b ≤ a → runW (S.2 2) (t - a) a = e → WP l (rmD 5 0 0) X sgX6_readWord kX6_readWord (kV (encC (cN (cN (cN S 15 (nI e)) 13 (wVal (S.2 2) b e)) 12 (wSort (S.2 2) b e)) ++ T)) 6 [some (.ref 1), some (.int (nI (a - b))), none] [] (encC (cN S 15 (nI a)) ++ T) 0 0 := by
    refine down (fun hba hr => ?_) (fun a ha ih hba hr => ?_)
    · rw [Nat.sub_self] at hr
      have hr : t = e := hr
      rw [hr]
      refine run_sound okX6_readWord cNw 200 (br (fun _ => t29 _) (fun _ => brT ?_ (t29 _)))
      show S.1 11 ≤ nI e
      rw [ht, hr]
      exact Int32.le_refl _
    · rw [show t - a = (t - (a + 1)) + 1 by omega, runW] at hr
      have ca : Ans l 0 X sgX7_at [.ref 2, .int (nI a)] (encC (cN S 15 (nI a)) ++ T) ((S.2 2).getD a 0) := by rw [← atF_nI _ (show a < 2 ^ 31 by omega)]; exact c_at (xs := S.2 2) rfl h2
      refine run_sound okX6_readWord cNw 200 (brF (nI_ge (b := 160) (by omega) (by decide)) (brF ?_ (kH ca (by decide) (kH (c_isLetter _) (by decide) (brB' (fun h => ?_) (fun h => ?_))))))
      · show ¬ S.1 11 ≤ nI a
        rw [ht]
        exact nI_ge ha (by omega)
      · rw [if_neg h] at hr
        rw [hr]
        exact t29 _
      · rw [if_pos h] at hr
        have ih := ih (by omega) hr
        rw [show a + 1 - b = (a - b) + 1 by omega, ← nI_1 (a - b), ← nI_1 a] at ih
        exact And.intro rfl (And.intro trivial ih)
  have q := key b hbt (Nat.le_refl _) he
  rw [Nat.sub_self, ← hb] at q
  exact And.intro trivial q
def dgC (tp : List Int32) : Nat → Nat → Int32 → Nat × Int32
  | 0, a, v => (a, v)
  | m + 1, a, v => if isDig (tp.getD a 0) then dgC tp m (a + 1) (v * 10 + tp.getD a 0 - 48) else (a, v)
def nSort (b e : Nat) : Int32 := if nI e - nI b ≤ 4 then 2 else 1
def cNn (i : Nat) : Bool := Nat.beq i 6 || Nat.beq i 43
set_option maxRecDepth 100000 in
set_option maxHeartbeats 4000000 in
theorem c_readNumber (hL : CLen S) {t b : Nat} (ht : S.1 11 = nI t) (ht2 : t ≤ 160) (hb : S.1 14 = nI b) (hbt : b ≤ t) (hv : S.1 13 = 0) :
    Ctr l 1 X sgX6_readNumber [.ref 1] (encC S ++ T) (kV (encC (cN (cN (cN S 15 (nI (dgC (S.2 2) (t - b) b 0).1)) 13 (dgC (S.2 2) (t - b) b 0).2) 12 (nSort b (dgC (S.2 2) (t - b) b 0).1)) ++ T)) := by
  obtain ⟨r, hr0⟩ : ∃ r, dgC (S.2 2) (t - b) b 0 = r := ⟨_, rfl⟩
  rw [hr0]
  have h2 := Nat.lt_of_le_of_lt (hL 2) (show 1000 < 2 ^ 31 by decide)
  have t43 : ∀ x1, WP l (rmD 1 0 0) X sgX6_readNumber kX6_readNumber (kV (encC (cN (cN (cN S 15 (nI r.1)) 13 r.2) 12 (nSort b r.1)) ++ T)) 43 [some (.ref 1), some (.int x1)] [] (encC (cN (cN S 15 (nI r.1)) 13 r.2) ++ T) 0 0 := by
    intro x1
    refine run_sound okX6_readNumber noCut 200 (br (fun h => ?_) (fun h => ?_))
    · have h : nI r.1 - S.1 14 ≤ 4 := h
      rw [hb] at h
      rw [show nSort b r.1 = 2 from if_pos h]
      exact And.intro trivial ⟨rfl, rfl, rfl⟩
    · have h : ¬ nI r.1 - S.1 14 ≤ 4 := h
      rw [hb] at h
      rw [show nSort b r.1 = 1 from if_neg h]
      exact And.intro trivial ⟨rfl, rfl, rfl⟩
  refine Ctr.of okX6_readNumber rfl (Nat.le_of_ble_eq_true rfl) (run_sound okX6_readNumber cNn 200 ?_)
  have key : ∀ a, a ≤ t → b ≤ a → ∀ v, dgC (S.2 2) (t - a) a v = r → WP l (rmD 1 0 0) X sgX6_readNumber kX6_readNumber (kV (encC (cN (cN (cN S 15 (nI r.1)) 13 r.2) 12 (nSort b r.1)) ++ T)) 6 [some (.ref 1), some (.int (nI (a - b)))] [] (encC (cN (cN S 15 (nI a)) 13 v) ++ T) 0 0 := by
    refine down (fun hba v hr => ?_) (fun a ha ih hba v hr => ?_)
    · rw [Nat.sub_self] at hr
      have hr : (t, v) = r := hr
      subst hr
      refine run_sound okX6_readNumber cNn 200 (br (fun _ => t43 _) (fun _ => brT ?_ (t43 _)))
      show S.1 11 ≤ nI t
      rw [ht]
      exact Int32.le_refl _
    · rw [show t - a = (t - (a + 1)) + 1 by omega, dgC] at hr
      have ca : ∀ S' : CS, S'.2 = S.2 → Ans l 0 X sgX7_at [.ref 2, .int (nI a)] (encC S' ++ T) ((S.2 2).getD a 0) := by
        intro S' hS'
        rw [← atF_nI _ (show a < 2 ^ 31 by omega), ← hS']
        exact c_at (xs := S'.2 2) rfl (by rw [hS']; exact h2)
      refine run_sound okX6_readNumber cNn 200 (brF (nI_ge (b := 160) (by omega) (by decide)) (brF ?_ (kH (ca _ rfl) (by decide) (kH (c_isDigit _) (by decide) (brB' (fun h => ?_) (fun h => ?_))))))
      · show ¬ S.1 11 ≤ nI a
        rw [ht]
        exact nI_ge ha (by omega)
      · rw [if_neg h] at hr
        subst hr
        exact t43 _
      · rw [if_pos h] at hr
        have ih := ih (by omega) _ hr
        rw [show a + 1 - b = (a - b) + 1 by omega, ← nI_1 (a - b), ← nI_1 a] at ih
        exact kH (ca (cN (cN S 15 (nI a)) 13 v) rfl) (by decide) (And.intro trivial (And.intro rfl (And.intro trivial ih)))
  have q := key b hbt (Nat.le_refl _) 0 hr0
  rw [Nat.sub_self, ← hb, ← hv] at q
  exact And.intro trivial q
/-- the next token: its place, where it ends, its sort, its value -/
abbrev TK : Type := Nat × Nat × Int32 × Int32
def clT (tp : List Int32) (t b : Nat) : TK :=
  if b = t then (b, b, 0, 0)
  else if isLet (tp.getD b 0) then (b, runW tp (t - b) b, wSort tp b (runW tp (t - b) b), wVal tp b (runW tp (t - b) b))
  else if isDig (tp.getD b 0) then (b, (dgC tp (t - b) b 0).1, nSort b (dgC tp (t - b) b 0).1, (dgC tp (t - b) b 0).2)
  else (b, b + 1, if sgC (tp.getD b 0) = true then tp.getD b 0 else 1, 0)
def lexF (tp : List Int32) (t a : Nat) : TK := clT tp t (skR tp (t - a) a)
def tkS (S : CS) (k : TK) : CS := cN (cN (cN (cN S 14 (nI k.1)) 15 (nI k.2.1)) 12 k.2.2.1) 13 k.2.2.2
def cNa (i : Nat) : Bool := Nat.beq i 6 || Nat.beq i 29
set_option maxRecDepth 100000 in
set_option maxHeartbeats 4000000 in
theorem c_advance (hL : CLen S) {t a : Nat} (ht : S.1 11 = nI t) (ht2 : t ≤ 160) (ha : S.1 15 = nI a) (hat : a ≤ t) : Ctr l 6 X sgX6_advance [.ref 1] (encC S ++ T) (kV (encC (tkS S (lexF (S.2 2) t a)) ++ T)) := by
  obtain ⟨b, hb⟩ : ∃ b, skR (S.2 2) (t - a) a = b := ⟨_, rfl⟩
  rw [show lexF (S.2 2) t a = clT (S.2 2) t b by unfold lexF; rw [hb]]
  have h2 := Nat.lt_of_le_of_lt (hL 2) (show 1000 < 2 ^ 31 by decide)
  have t29 : b ≤ t → ∀ x1, WP l (rmD 6 0 0) X sgX6_advance kX6_advance (kV (encC (tkS S (clT (S.2 2) t b)) ++ T)) 29 [some (.ref 1), some (.int x1)] [] (encC (cN S 14 (nI b)) ++ T) 0 0 := by
    intro hbt x1
    have ca : ∀ S' : CS, S'.2 = S.2 → Ans l 0 X sgX7_at [.ref 2, .int (nI b)] (encC S' ++ T) ((S.2 2).getD b 0) := by
      intro S' hS'
      rw [← atF_nI _ (show b < 2 ^ 31 by omega), ← hS']
      exact c_at (xs := S'.2 2) rfl (by rw [hS']; exact h2)
    by_cases e : b = t
    · rw [show clT (S.2 2) t b = (b, b, 0, 0) from if_pos e]
      refine run_sound okX6_advance noCut 200 (And.intro trivial (brF ?_ (And.intro trivial (And.intro trivial ⟨rfl, rfl, rfl⟩))))
      show ¬ nI b < S.1 11
      rw [ht, e]
      exact Int32.not_lt.mpr (Int32.le_refl _)
    · have hlt : nI b < S.1 11 := by rw [ht]; exact nI_lt (by omega) (by omega)
      by_cases p : isLet ((S.2 2).getD b 0)
      · rw [show clT (S.2 2) t b = (b, runW (S.2 2) (t - b) b, wSort (S.2 2) b (runW (S.2 2) (t - b) b), wVal (S.2 2) b (runW (S.2 2) (t - b) b)) from (if_neg e).trans (if_pos p)]
        have hw : Ctr l 5 X sgX6_readWord [.ref 1] (encC (cN (cN S 14 (nI b)) 13 0) ++ T) (kV (encC (cN (cN (cN (cN (cN S 14 (nI b)) 13 0) 15 (nI (runW (S.2 2) (t - b) b))) 13 (wVal (S.2 2) b (runW (S.2 2) (t - b) b))) 12 (wSort (S.2 2) b (runW (S.2 2) (t - b) b))) ++ T)) := c_readWord (S := cN (cN S 14 (nI b)) 13 0) hL ht ht2 (b := b) rfl hbt
        generalize wVal (S.2 2) b (runW (S.2 2) (t - b) b) = va at hw ⊢
        generalize wSort (S.2 2) b (runW (S.2 2) (t - b) b) = so at hw ⊢
        generalize runW (S.2 2) (t - b) b = ee at hw ⊢
        refine run_sound okX6_advance noCut 200 (And.intro trivial (brT hlt (kH (ca (cN (cN S 14 (nI b)) 13 0) rfl) (by decide) (kH (c_isLetter _) (by decide) (brB' (fun z => absurd p z) (fun _ => kH hw (by decide) ⟨rfl, rfl, rfl⟩))))))
      · by_cases q : isDig ((S.2 2).getD b 0)
        · rw [show clT (S.2 2) t b = (b, (dgC (S.2 2) (t - b) b 0).1, nSort b (dgC (S.2 2) (t - b) b 0).1, (dgC (S.2 2) (t - b) b 0).2) from (if_neg e).trans ((if_neg p).trans (if_pos q))]
          have hw : Ctr l 1 X sgX6_readNumber [.ref 1] (encC (cN (cN S 14 (nI b)) 13 0) ++ T) (kV (encC (cN (cN (cN (cN (cN S 14 (nI b)) 13 0) 15 (nI (dgC (S.2 2) (t - b) b 0).1)) 13 (dgC (S.2 2) (t - b) b 0).2) 12 (nSort b (dgC (S.2 2) (t - b) b 0).1)) ++ T)) := c_readNumber (S := cN (cN S 14 (nI b)) 13 0) hL ht ht2 (b := b) rfl hbt rfl
          generalize nSort b (dgC (S.2 2) (t - b) b 0).1 = so at hw ⊢
          generalize dgC (S.2 2) (t - b) b 0 = dd at hw ⊢
          refine run_sound okX6_advance noCut 200 (And.intro trivial (brT hlt (kH (ca (cN (cN S 14 (nI b)) 13 0) rfl) (by decide) (kH (c_isLetter _) (by decide) (brB' (fun _ => kH (ca (cN (cN S 14 (nI b)) 13 0) rfl) (by decide) (kH (c_isDigit _) (by decide) (brB' (fun z => absurd q z) (fun _ => kH hw (by decide) ⟨rfl, rfl, rfl⟩)))) (fun z => absurd z p))))))
        · rw [show clT (S.2 2) t b = (b, b + 1, if sgC ((S.2 2).getD b 0) = true then (S.2 2).getD b 0 else 1, 0) from (if_neg e).trans ((if_neg p).trans (if_neg q))]
          refine run_sound okX6_advance noCut 200 (And.intro trivial (brT hlt (kH (ca (cN (cN S 14 (nI b)) 13 0) rfl) (by decide) (kH (c_isLetter _) (by decide) (brB' (fun _ => kH (ca (cN (cN S 14 (nI b)) 13 0) rfl) (by decide) (kH (c_isDigit _) (by decide) (brB' (fun _ => And.intro trivial (kH (ca (cN (cN (cN S 14 (nI b)) 13 0) 15 (nI b + 1)) rfl) (by decide) (kH (c_isSign _) (by decide) ?_))) (fun z => absurd z q)))) (fun z => absurd z p))))))
          have e1 : nI b + 1 = nI (b + 1) := nI_1 b
          refine brBB (fun z => And.intro trivial ⟨rfl, ?_, rfl⟩) (fun z => kH (ca (cN (cN (cN S 14 (nI b)) 13 0) 15 (nI b + 1)) rfl) (by decide) (And.intro trivial ⟨rfl, ?_, rfl⟩))
          · rw [if_neg (by rw [z]; decide)]
            show encC (cN (cN (cN (cN S 14 (nI b)) 13 0) 15 (nI b + 1)) 12 1) ++ T = _
            rw [e1]
            rfl
          · rw [if_pos z]
            show encC (cN (cN (cN (cN S 14 (nI b)) 13 0) 15 (nI b + 1)) 12 ((S.2 2).getD b 0)) ++ T = _
            rw [e1]
            rfl
  refine Ctr.of okX6_advance rfl (Nat.le_of_ble_eq_true rfl) (run_sound okX6_advance cNa 200 ?_)
  generalize clT (S.2 2) t b = W at t29 ⊢
  have key : ∀ c, c ≤ t → a ≤ c → skR (S.2 2) (t - c) c = b → WP l (rmD 6 0 0) X sgX6_advance kX6_advance (kV (encC (tkS S W) ++ T)) 6 [some (.ref 1), some (.int (nI (c - a)))] [] (encC (cN S 14 (nI c)) ++ T) 0 0 := by
    refine down (fun hac hr => ?_) (fun c hc ih hac hr => ?_)
    · rw [Nat.sub_self] at hr
      have hr : t = b := hr
      rw [hr]
      have ht' : S.1 11 ≤ nI b := by rw [ht, hr]; exact Int32.le_refl _
      exact run_sound okX6_advance cNa 200 (br (fun _ => t29 (by omega) _) (fun _ => brT ht' (t29 (by omega) _)))
    · rw [show t - c = (t - (c + 1)) + 1 by omega, skR] at hr
      have ca : Ans l 0 X sgX7_at [.ref 2, .int (nI c)] (encC (cN S 14 (nI c)) ++ T) ((S.2 2).getD c 0) := by rw [← atF_nI _ (show c < 2 ^ 31 by omega)]; exact c_at (xs := S.2 2) rfl h2
      have go : skR (S.2 2) (t - (c + 1)) (c + 1) = b → WP l (rmD 6 0 0) X sgX6_advance kX6_advance (kV (encC (tkS S W) ++ T)) 6 [some (.ref 1), some (.int (nI (c - a) + 1))] [] (encC (cN S 14 (nI c + 1)) ++ T) 0 0 := by
        intro hr
        have ih := ih (by omega) hr
        rw [show c + 1 - a = (c - a) + 1 by omega, ← nI_1 (c - a), ← nI_1 c] at ih
        exact ih
      refine run_sound okX6_advance cNa 200 (brF (nI_ge (b := 160) (by omega) (by decide)) (brF ?_ (kH ca (by decide) (kH (c_isBlank _) (by decide) (brB' (fun h => ?_) (fun h => And.intro rfl (And.intro trivial ?_)))))))
      · show ¬ S.1 11 ≤ nI c
        rw [ht]
        exact nI_ge hc (by omega)
      · rw [if_neg (show ¬ (S.2 2).getD c 0 = Int32.ofInt 32 from fun z => h (Or.inl z)), if_neg (show ¬ (S.2 2).getD c 0 = Int32.ofInt 10 from fun z => h (Or.inr z))] at hr
        rw [hr]
        exact t29 (by omega) _
      · rcases h with h | h
        · rw [if_pos (show (S.2 2).getD c 0 = Int32.ofInt 32 from h)] at hr
          exact go hr
        · by_cases h1 : (S.2 2).getD c 0 = Int32.ofInt 32
          · rw [if_pos h1] at hr
            exact go hr
          · rw [if_neg h1, if_pos (show (S.2 2).getD c 0 = Int32.ofInt 10 from h)] at hr
            exact go hr
  have q := key a hat (Nat.le_refl _) hb
  rw [Nat.sub_self, ← ha] at q
  exact And.intro trivial q
set_option maxRecDepth 100000 in
theorem c_start (hL : CLen S) {t : Nat} (ht : S.1 11 = nI t) (ht2 : t ≤ 160) : Ctr l 7 X sgX6_start [.ref 1] (encC S ++ T) (kV (encC (tkS S (lexF (S.2 2) t 0)) ++ T)) := by
  have hc := c_advance (l := l) (X := X) (T := T) (S := cN S 15 0) hL ht ht2 (a := 0) rfl (Nat.zero_le _)
  refine Ctr.of okX6_start rfl (Nat.le_of_ble_eq_true rfl) (run_sound okX6_start noCut 200 ?_)
  exact And.intro trivial (kH hc (by decide) ⟨rfl, rfl, rfl⟩)
end LEX
end
section
-- 73.code
/-! THE CLASS's code, as its reader writes it -/
section CODE
variable {l : Launch} {X : List (List Int32)} {S : CS} {T : AH} {t : Nat}
/-- a reader's state: the token that stands next, the code so far -/
abbrev PS : Type := TK × List (Int32 × Int32)
def advP (tp : List Int32) (t : Nat) (p : PS) : PS := (lexF tp t p.1.2.1, p.2)
def addP (s v : Int32) (p : PS) : PS := (p.1, if p.2.length < 160 then p.2 ++ [(s, v)] else p.2)
def CR (r4 r5 : List Int32) (c : List (Int32 × Int32)) : Prop := r4.length = 160 ∧ r5.length = 160 ∧ c.length ≤ 160 ∧ r4.take c.length = c.map (fun x => x.1) ∧ r5.take c.length = c.map (fun x => x.2)
theorem take_push {xs ys : List Int32} {n : Nat} (h : xs.take n = ys) (hy : ys.length = n) (hn : n < xs.length) (v : Int32) : (xs.set n v).take (n + 1) = ys ++ [v] := by
  apply List.ext_getElem?
  intro j
  by_cases hj : j < n
  · have z := congrArg (fun q : List Int32 => q[j]?) h
    simp only [List.getElem?_take_of_lt hj] at z
    rw [List.getElem?_append_left (by omega), ← z, List.getElem?_take_of_lt (by omega), List.getElem?_set_ne (by omega)]
  · by_cases e : j = n
    · subst e
      rw [List.getElem?_append_right (by omega), hy, List.getElem?_take_of_lt (by omega), List.getElem?_set_self hn]
      simp
    · rw [List.getElem?_append_right (by omega), hy, List.getElem?_eq_none (by simp; omega), List.getElem?_eq_none (by simp; omega)]
theorem CR.push {r4 r5 : List Int32} {c : List (Int32 × Int32)} (h : CR r4 r5 c) (hc : c.length < 160) (s v : Int32) : CR (r4.set c.length s) (r5.set c.length v) (c ++ [(s, v)]) := by
  obtain ⟨h4, h5, hl, e4, e5⟩ := h
  refine ⟨by simpa using h4, by simpa using h5, by simp; omega, ?_, ?_⟩
  · rw [List.length_append, List.map_append]
    exact take_push e4 (by simp) (by omega) s
  · rw [List.length_append, List.map_append]
    exact take_push e5 (by simp) (by omega) v
def pS (S : CS) (k : TK) (r4 r5 : List Int32) (n : Nat) : CS := cN (cR (cR (tkS S k) 4 r4) 5 r5) 34 (nI n)
def InC (S : CS) (T : AH) (t : Nat) (p : PS) (h : AH) : Prop := p.1.2.1 ≤ t ∧ ∃ r4 r5, CR r4 r5 p.2 ∧ h = encC (pS S p.1 r4 r5 p.2.length) ++ T
theorem pS_len {k : TK} {r4 r5 : List Int32} {n : Nat} (hL : CLen S) (h4 : r4.length = 160) (h5 : r5.length = 160) : CLen (pS S k r4 r5 n) := by
  intro j
  show (uf (uf S.2 4 r4) 5 r5 j).length ≤ 1000
  unfold uf
  split
  · omega
  · split
    · omega
    · exact hL j
theorem putF_nI {xs : List Int32} {n : Nat} (h : n < 2 ^ 31) (v : Int32) : putF xs (nI n) v = xs.set n v := by
  unfold putF
  rw [if_pos (nI_pos' h), nI_clamp h]
set_option maxRecDepth 100000 in
theorem c_add (s v : Int32) {p : PS} {h : AH} (hin : InC S T t p h) : Ctr l 1 X sgX0_add [.ref 3, .int s, .int v] h (fun h w => InC S T t (addP s v p) h ∧ w = none) := by
  obtain ⟨hle, r4, r5, hcr, rfl⟩ := hin
  obtain ⟨h4, h5, hl, e4, e5⟩ := id hcr
  refine Ctr.of okX0_add rfl (Nat.le_of_ble_eq_true rfl) (run_sound okX0_add noCut 100 ?_)
  by_cases hc : p.2.length < 160
  · have e : addP s v p = (p.1, p.2 ++ [(s, v)]) := by unfold addP; rw [if_pos hc]
    refine brT (nI_lt (b := 160) hc (by decide)) (kH (c_put (xs := r4) rfl rfl (by omega)) (by decide) (kH (c_put (xs := r5) rfl rfl (by omega)) (by decide) (And.intro rfl (And.intro trivial ⟨rfl, ?_, rfl⟩))))
    rw [e]
    refine ⟨hle, _, _, hcr.push hc s v, ?_⟩
    have q : encC (pS S p.1 (putF r4 (nI p.2.length) s) (putF r5 (nI p.2.length) v) (p.2.length + 1)) ++ T = encC (pS S p.1 (r4.set p.2.length s) (r5.set p.2.length v) (p.2 ++ [(s, v)]).length) ++ T := by
      rw [putF_nI (by omega), putF_nI (by omega), List.length_append]
      rfl
    rw [← q]
    show encC (cN (cR (cR (tkS S p.1) 4 (putF r4 (nI p.2.length) s)) 5 (putF r5 (nI p.2.length) v)) 34 (nI p.2.length + 1)) ++ T = _
    rw [nI_1]
    rfl
  · have e : addP s v p = p := by unfold addP; rw [if_neg hc]
    refine brF (nI_nlt (b := 160) (by omega) (by omega)) ⟨rfl, ?_, rfl⟩
    rw [e]
    exact ⟨hle, r4, r5, hcr, rfl⟩
theorem dgC_le (tp : List Int32) : ∀ m a v, (dgC tp m a v).1 ≤ a + m
  | 0, _, _ => Nat.le_refl _
  | m + 1, a, v => by
    unfold dgC
    split
    · have h := dgC_le tp m (a + 1) (v * 10 + tp.getD a 0 - 48)
      omega
    · show a ≤ _
      omega
theorem lexF_le {tp : List Int32} {a : Nat} (h : a ≤ t) : (lexF tp t a).2.1 ≤ t := by
  have hb := skR_le tp (t - a) a
  unfold lexF
  generalize skR tp (t - a) a = b at hb ⊢
  unfold clT
  split
  · show b ≤ t
    omega
  · split
    · have := runW_le tp (t - b) b
      show runW tp (t - b) b ≤ t
      omega
    · split
      · have := dgC_le tp (t - b) b 0
        show (dgC tp (t - b) b 0).1 ≤ t
        omega
      · show b + 1 ≤ t
        omega
theorem c_adv (hL : CLen S) (ht : S.1 11 = nI t) (ht2 : t ≤ 160) {p : PS} {h : AH} (hin : InC S T t p h) : Ctr l 6 X sgX6_advance [.ref 1] h (fun h w => InC S T t (advP (S.2 2) t p) h ∧ w = none) := by
  obtain ⟨hle, r4, r5, hcr, rfl⟩ := hin
  have hc := c_advance (l := l) (X := X) (T := T) (S := pS S p.1 r4 r5 p.2.length) (pS_len hL hcr.1 hcr.2.1) ht ht2 (a := p.1.2.1) rfl hle
  refine hc.weak (fun h w hw => ⟨⟨lexF_le hle, r4, r5, hcr, hw.1⟩, hw.2⟩)
end CODE
end
section
-- 74.read
/-! THE CLASS's reader, rule by rule -/
section READ
variable {l : Launch} {X : List (List Int32)} {S : CS} {T : AH} {t : Nat} {d : Nat}
abbrev GF : Type := PS → Bool × PS
abbrev GP (S : CS) (T : AH) (t : Nat) (r : Bool × PS) : AH → Option Value → Prop := fun h w => InC S T t r.2 h ∧ w = some (.int (bB r.1))
/-- a rule is read as a function says -/
def GC (l : Launch) (X : List (List Int32)) (S : CS) (T : AH) (t d : Nat) (g : Sig) (o : Int32) (f : GF) : Prop := ∀ (p : PS) (h : AH), InC S T t p h → Ctr l d X g [.ref 8, .int o] h (GP S T t (f p))
abbrev srt (p : PS) : Int32 := p.1.2.2.1
theorem rmo {cs : Sig} {d d' : Nat} (h : d' + 1 ≤ d) (h2 : sL cs ≤ 45 ∧ sC cs = 0 ∧ sS cs = 0) : d' + 1 ≤ (rmD d 0 0).frames ∧ 8 + (sL cs + 11) + 64 * d' ≤ (rmD d 0 0).locals ∧ 0 + sC cs ≤ (rmD d 0 0).cells ∧ 0 + sS cs ≤ (rmD d 0 0).slots := by
  refine ⟨h, ?_, ?_, ?_⟩
  · show 8 + (sL cs + 11) + 64 * d' ≤ 64 * d
    omega
  · show 0 + sC cs ≤ 0
    omega
  · show 0 + sS cs ≤ 0
    omega
def loopP (sub : GF) (tp : List Int32) (t : Nat) (ops : Int32 → Bool) : Nat → GF
  | 0, p => (true, p)
  | m + 1, p => if ops (srt p) = true then (if (sub (advP tp t p)).1 = true then loopP sub tp t ops m (addP (srt p) 0 (sub (advP tp t p)).2) else (false, (sub (advP tp t p)).2)) else (true, p)
def binP (sub : GF) (tp : List Int32) (t : Nat) (ops : Int32 → Bool) : GF := fun p => if (sub p).1 = true then loopP sub tp t ops 160 (sub p).2 else (false, (sub p).2)
def isS (s : Int32) : Int32 → Bool := fun x => x == s
def isPM : Int32 → Bool := fun x => x == 43 || x == 45
set_option maxRecDepth 100000 in
set_option maxHeartbeats 4000000 in
theorem c_readTerm (hL : CLen S) (ht : S.1 11 = nI t) (ht2 : t ≤ 160) {o : Int32} {sub : GF} (hd : 6 ≤ d) (hsub : GC l X S T t d sgX1_readOne o sub) : GC l X S T t (d + 1) sgX1_readTerm o (binP sub (S.2 2) t (isS 42)) := by
  intro p h hin
  have key : ∀ j, j ≤ 160 → ∀ (p : PS) (h : AH), InC S T t p h → WP l (rmD (d + 1) 0 0) X sgX1_readTerm kX1_readTerm (GP S T t (loopP sub (S.2 2) t (isS 42) (160 - j) p)) 8 [some (.ref 8), some (.int o), some (.int (nI j))] [] h 0 0 := by
    refine down (fun p h hin => ?_) (fun j hj ih p h hin => ?_)
    · obtain ⟨hle, r4, r5, hcr, rfl⟩ := id hin
      exact run_sound okX1_readTerm (fun i => Nat.beq i 8) 100 (brT (Int32.le_refl _) ⟨rfl, hin, rfl⟩)
    · rw [show 160 - j = (160 - (j + 1)) + 1 by omega, loopP]
      obtain ⟨hle, r4, r5, hcr, rfl⟩ := id hin
      by_cases q : srt p = 42
      · rw [if_pos (show isS 42 (srt p) = true from beq_iff_eq.mpr q), q]
        refine run_sound okX1_readTerm (fun i => Nat.beq i 8) 100 (brF (nI_ge (b := 160) hj (by decide)) (brT q ⟨6, _, rmo (by omega) (by decide), c_adv hL ht ht2 hin, ?_⟩))
        rintro h' w ⟨hin', rfl⟩
        obtain ⟨hle', r4', r5', hcr', rfl⟩ := id hin'
        refine ⟨d, _, rmo (by omega) (by decide), hsub _ _ hin', ?_⟩
        rintro h' w ⟨hin2, rfl⟩
        obtain ⟨hle2, r42, r52, hcr2, rfl⟩ := id hin2
        refine brBB (fun z => ?_) (fun z => ?_)
        · rw [if_neg (by rw [z]; decide)]
          exact ⟨rfl, hin2, rfl⟩
        · rw [if_pos z]
          refine ⟨1, _, rmo (by omega) (by decide), c_add 42 0 hin2, ?_⟩
          rintro h' w ⟨hin3, rfl⟩
          have ih := ih _ _ hin3
          rw [← nI_1 j] at ih
          exact ih
      · rw [if_neg (show ¬ isS 42 (srt p) = true from fun z => q (beq_iff_eq.mp z))]
        exact run_sound okX1_readTerm (fun i => Nat.beq i 8) 100 (brF (nI_ge (b := 160) hj (by decide)) (brF q ⟨rfl, hin, rfl⟩))
  obtain ⟨hle, r4, r5, hcr, rfl⟩ := id hin
  refine Ctr.of okX1_readTerm rfl (Nat.le_of_ble_eq_true rfl) (run_sound okX1_readTerm (fun i => Nat.beq i 8) 100 ⟨d, _, rmo (by omega) (by decide), hsub _ _ hin, ?_⟩)
  rintro h' w ⟨hin2, rfl⟩
  obtain ⟨hle2, r42, r52, hcr2, rfl⟩ := id hin2
  unfold binP
  refine brBB (fun z => ?_) (fun z => ?_)
  · rw [if_neg (by rw [z]; decide)]
    exact ⟨rfl, hin2, rfl⟩
  · rw [if_pos z]
    exact key 0 (Nat.zero_le _) _ _ hin2
set_option maxRecDepth 100000 in
set_option maxHeartbeats 4000000 in
theorem c_readAnd (hL : CLen S) (ht : S.1 11 = nI t) (ht2 : t ≤ 160) {o : Int32} {sub : GF} (hd : 6 ≤ d) (hsub : GC l X S T t d sgX1_readNot o sub) : GC l X S T t (d + 1) sgX1_readAnd o (binP sub (S.2 2) t (isS 8)) := by
  intro p h hin
  have key : ∀ j, j ≤ 160 → ∀ (p : PS) (h : AH), InC S T t p h → WP l (rmD (d + 1) 0 0) X sgX1_readAnd kX1_readAnd (GP S T t (loopP sub (S.2 2) t (isS 8) (160 - j) p)) 8 [some (.ref 8), some (.int o), some (.int (nI j))] [] h 0 0 := by
    refine down (fun p h hin => ?_) (fun j hj ih p h hin => ?_)
    · obtain ⟨hle, r4, r5, hcr, rfl⟩ := id hin
      exact run_sound okX1_readAnd (fun i => Nat.beq i 8) 100 (brT (Int32.le_refl _) ⟨rfl, hin, rfl⟩)
    · rw [show 160 - j = (160 - (j + 1)) + 1 by omega, loopP]
      obtain ⟨hle, r4, r5, hcr, rfl⟩ := id hin
      by_cases q : srt p = 8
      · rw [if_pos (show isS 8 (srt p) = true from beq_iff_eq.mpr q), q]
        refine run_sound okX1_readAnd (fun i => Nat.beq i 8) 100 (brF (nI_ge (b := 160) hj (by decide)) (brT q ⟨6, _, rmo (by omega) (by decide), c_adv hL ht ht2 hin, ?_⟩))
        rintro h' w ⟨hin', rfl⟩
        obtain ⟨hle', r4', r5', hcr', rfl⟩ := id hin'
        refine ⟨d, _, rmo (by omega) (by decide), hsub _ _ hin', ?_⟩
        rintro h' w ⟨hin2, rfl⟩
        obtain ⟨hle2, r42, r52, hcr2, rfl⟩ := id hin2
        refine brBB (fun z => ?_) (fun z => ?_)
        · rw [if_neg (by rw [z]; decide)]
          exact ⟨rfl, hin2, rfl⟩
        · rw [if_pos z]
          refine ⟨1, _, rmo (by omega) (by decide), c_add 8 0 hin2, ?_⟩
          rintro h' w ⟨hin3, rfl⟩
          have ih := ih _ _ hin3
          rw [← nI_1 j] at ih
          exact ih
      · rw [if_neg (show ¬ isS 8 (srt p) = true from fun z => q (beq_iff_eq.mp z))]
        exact run_sound okX1_readAnd (fun i => Nat.beq i 8) 100 (brF (nI_ge (b := 160) hj (by decide)) (brF q ⟨rfl, hin, rfl⟩))
  obtain ⟨hle, r4, r5, hcr, rfl⟩ := id hin
  refine Ctr.of okX1_readAnd rfl (Nat.le_of_ble_eq_true rfl) (run_sound okX1_readAnd (fun i => Nat.beq i 8) 100 ⟨d, _, rmo (by omega) (by decide), hsub _ _ hin, ?_⟩)
  rintro h' w ⟨hin2, rfl⟩
  obtain ⟨hle2, r42, r52, hcr2, rfl⟩ := id hin2
  unfold binP
  refine brBB (fun z => ?_) (fun z => ?_)
  · rw [if_neg (by rw [z]; decide)]
    exact ⟨rfl, hin2, rfl⟩
  · rw [if_pos z]
    exact key 0 (Nat.zero_le _) _ _ hin2
set_option maxRecDepth 100000 in
set_option maxHeartbeats 4000000 in
theorem c_readOr (hL : CLen S) (ht : S.1 11 = nI t) (ht2 : t ≤ 160) {o : Int32} {sub : GF} (hd : 6 ≤ d) (hsub : GC l X S T t d sgX1_readAnd o sub) : GC l X S T t (d + 1) sgX1_readOr o (binP sub (S.2 2) t (isS 7)) := by
  intro p h hin
  have key : ∀ j, j ≤ 160 → ∀ (p : PS) (h : AH), InC S T t p h → WP l (rmD (d + 1) 0 0) X sgX1_readOr kX1_readOr (GP S T t (loopP sub (S.2 2) t (isS 7) (160 - j) p)) 8 [some (.ref 8), some (.int o), some (.int (nI j))] [] h 0 0 := by
    refine down (fun p h hin => ?_) (fun j hj ih p h hin => ?_)
    · obtain ⟨hle, r4, r5, hcr, rfl⟩ := id hin
      exact run_sound okX1_readOr (fun i => Nat.beq i 8) 100 (brT (Int32.le_refl _) ⟨rfl, hin, rfl⟩)
    · rw [show 160 - j = (160 - (j + 1)) + 1 by omega, loopP]
      obtain ⟨hle, r4, r5, hcr, rfl⟩ := id hin
      by_cases q : srt p = 7
      · rw [if_pos (show isS 7 (srt p) = true from beq_iff_eq.mpr q), q]
        refine run_sound okX1_readOr (fun i => Nat.beq i 8) 100 (brF (nI_ge (b := 160) hj (by decide)) (brT q ⟨6, _, rmo (by omega) (by decide), c_adv hL ht ht2 hin, ?_⟩))
        rintro h' w ⟨hin', rfl⟩
        obtain ⟨hle', r4', r5', hcr', rfl⟩ := id hin'
        refine ⟨d, _, rmo (by omega) (by decide), hsub _ _ hin', ?_⟩
        rintro h' w ⟨hin2, rfl⟩
        obtain ⟨hle2, r42, r52, hcr2, rfl⟩ := id hin2
        refine brBB (fun z => ?_) (fun z => ?_)
        · rw [if_neg (by rw [z]; decide)]
          exact ⟨rfl, hin2, rfl⟩
        · rw [if_pos z]
          refine ⟨1, _, rmo (by omega) (by decide), c_add 7 0 hin2, ?_⟩
          rintro h' w ⟨hin3, rfl⟩
          have ih := ih _ _ hin3
          rw [← nI_1 j] at ih
          exact ih
      · rw [if_neg (show ¬ isS 7 (srt p) = true from fun z => q (beq_iff_eq.mp z))]
        exact run_sound okX1_readOr (fun i => Nat.beq i 8) 100 (brF (nI_ge (b := 160) hj (by decide)) (brF q ⟨rfl, hin, rfl⟩))
  obtain ⟨hle, r4, r5, hcr, rfl⟩ := id hin
  refine Ctr.of okX1_readOr rfl (Nat.le_of_ble_eq_true rfl) (run_sound okX1_readOr (fun i => Nat.beq i 8) 100 ⟨d, _, rmo (by omega) (by decide), hsub _ _ hin, ?_⟩)
  rintro h' w ⟨hin2, rfl⟩
  obtain ⟨hle2, r42, r52, hcr2, rfl⟩ := id hin2
  unfold binP
  refine brBB (fun z => ?_) (fun z => ?_)
  · rw [if_neg (by rw [z]; decide)]
    exact ⟨rfl, hin2, rfl⟩
  · rw [if_pos z]
    exact key 0 (Nat.zero_le _) _ _ hin2
set_option maxRecDepth 100000 in
set_option maxHeartbeats 4000000 in
theorem c_readSum (hL : CLen S) (ht : S.1 11 = nI t) (ht2 : t ≤ 160) {o : Int32} {sub : GF} (hd : 6 ≤ d) (hsub : GC l X S T t d sgX1_readTerm o sub) : GC l X S T t (d + 1) sgX1_readSum o (binP sub (S.2 2) t isPM) := by
  intro p h hin
  have key : ∀ j, j ≤ 160 → ∀ (p : PS) (h : AH), InC S T t p h → ∀ x3, WP l (rmD (d + 1) 0 0) X sgX1_readSum kX1_readSum (GP S T t (loopP sub (S.2 2) t isPM (160 - j) p)) 8 [some (.ref 8), some (.int o), some (.int (nI j)), x3] [] h 0 0 := by
    refine down (fun p h hin x3 => ?_) (fun j hj ih p h hin x3 => ?_)
    · obtain ⟨hle, r4, r5, hcr, rfl⟩ := id hin
      exact run_sound okX1_readSum (fun i => Nat.beq i 8) 100 (brT (Int32.le_refl _) ⟨rfl, hin, rfl⟩)
    · rw [show 160 - j = (160 - (j + 1)) + 1 by omega, loopP]
      obtain ⟨hle, r4, r5, hcr, rfl⟩ := id hin
      have t21 : isPM (srt p) = true → WP l (rmD (d + 1) 0 0) X sgX1_readSum kX1_readSum (GP S T t (if (sub (advP (S.2 2) t p)).1 = true then loopP sub (S.2 2) t isPM (160 - (j + 1)) (addP (srt p) 0 (sub (advP (S.2 2) t p)).2) else (false, (sub (advP (S.2 2) t p)).2))) 21 [some (.ref 8), some (.int o), some (.int (nI j)), x3] [] (encC (pS S p.1 r4 r5 p.2.length) ++ T) 0 0 := by
        intro _
        refine run_sound okX1_readSum (fun i => Nat.beq i 8) 100 ⟨6, _, rmo (by omega) (by decide), c_adv hL ht ht2 hin, ?_⟩
        rintro h' w ⟨hin', rfl⟩
        obtain ⟨hle', r4', r5', hcr', rfl⟩ := id hin'
        refine ⟨d, _, rmo (by omega) (by decide), hsub _ _ hin', ?_⟩
        rintro h' w ⟨hin2, rfl⟩
        obtain ⟨hle2, r42, r52, hcr2, rfl⟩ := id hin2
        refine brBB (fun z => ?_) (fun z => ?_)
        · rw [if_neg (by rw [z]; decide)]
          exact ⟨rfl, hin2, rfl⟩
        · rw [if_pos z]
          refine ⟨1, _, rmo (by omega) (by decide), c_add (srt p) 0 hin2, ?_⟩
          rintro h' w ⟨hin3, rfl⟩
          have ih := ih _ _ hin3 (some (.int (srt p)))
          rw [← nI_1 j] at ih
          exact ih
      by_cases q : isPM (srt p) = true
      · rw [if_pos q]
        refine run_sound okX1_readSum (fun i => Nat.beq i 8 || Nat.beq i 21) 100 (brF (nI_ge (b := 160) hj (by decide)) (br (fun _ => t21 q) (fun h1 => br (fun _ => t21 q) (fun h2 => ?_))))
        exfalso
        simp only [isPM, Bool.or_eq_true, beq_iff_eq] at q
        exact q.elim h1 h2
      · rw [if_neg q]
        simp only [isPM, Bool.or_eq_true, beq_iff_eq] at q
        exact run_sound okX1_readSum (fun i => Nat.beq i 8 || Nat.beq i 21) 100 (brF (nI_ge (b := 160) hj (by decide)) (brF (fun z => q (Or.inl z)) (brF (fun z => q (Or.inr z)) ⟨rfl, hin, rfl⟩)))
  obtain ⟨hle, r4, r5, hcr, rfl⟩ := id hin
  refine Ctr.of okX1_readSum rfl (Nat.le_of_ble_eq_true rfl) (run_sound okX1_readSum (fun i => Nat.beq i 8) 100 ⟨d, _, rmo (by omega) (by decide), hsub _ _ hin, ?_⟩)
  rintro h' w ⟨hin2, rfl⟩
  obtain ⟨hle2, r42, r52, hcr2, rfl⟩ := id hin2
  unfold binP
  refine brBB (fun z => ?_) (fun z => ?_)
  · rw [if_neg (by rw [z]; decide)]
    exact ⟨rfl, hin2, rfl⟩
  · rw [if_pos z]
    exact key 0 (Nat.zero_le _) _ _ hin2 none
def isCm : Int32 → Bool := fun x => x == 60 || x == 61
def cmpP (sub : GF) (tp : List Int32) (t : Nat) : GF := fun p =>
  if (sub p).1 = true then
    (if isCm (srt (sub p).2) = true then
      (if (sub (advP tp t (sub p).2)).1 = true then (true, addP (srt (sub p).2) 0 (sub (advP tp t (sub p).2)).2) else (false, (sub (advP tp t (sub p).2)).2))
    else (true, (sub p).2))
  else (false, (sub p).2)
set_option maxRecDepth 100000 in
set_option maxHeartbeats 4000000 in
theorem c_readCompared (hL : CLen S) (ht : S.1 11 = nI t) (ht2 : t ≤ 160) {o : Int32} {sub : GF} (hd : 6 ≤ d) (hsub : GC l X S T t d sgX1_readSum o sub) : GC l X S T t (d + 1) sgX1_readCompared o (cmpP sub (S.2 2) t) := by
  intro p h hin
  obtain ⟨hle, r4, r5, hcr, rfl⟩ := id hin
  refine Ctr.of okX1_readCompared rfl (Nat.le_of_ble_eq_true rfl) (run_sound okX1_readCompared (fun i => Nat.beq i 18) 100 ⟨d, _, rmo (by omega) (by decide), hsub _ _ hin, ?_⟩)
  unfold cmpP
  generalize sub p = r
  rintro h' w ⟨hin2, rfl⟩
  obtain ⟨hle2, r42, r52, hcr2, rfl⟩ := id hin2
  refine brBB (fun z => ?_) (fun z => ?_)
  · rw [if_neg (by rw [z]; decide)]
    exact ⟨rfl, hin2, rfl⟩
  · rw [if_pos z]
    have t18 : WP l (rmD (d + 1) 0 0) X sgX1_readCompared kX1_readCompared (GP S T t (if (sub (advP (S.2 2) t r.2)).1 = true then (true, addP (srt r.2) 0 (sub (advP (S.2 2) t r.2)).2) else (false, (sub (advP (S.2 2) t r.2)).2))) 18 [some (.ref 8), some (.int o), some (.int (srt r.2))] [] (encC (pS S r.2.1 r42 r52 r.2.2.length) ++ T) 0 0 := by
      refine run_sound okX1_readCompared noCut 100 ⟨6, _, rmo (by omega) (by decide), c_adv hL ht ht2 hin2, ?_⟩
      rintro h' w ⟨hin', rfl⟩
      obtain ⟨hle', r4', r5', hcr', rfl⟩ := id hin'
      refine ⟨d, _, rmo (by omega) (by decide), hsub _ _ hin', ?_⟩
      rintro h' w ⟨hin3, rfl⟩
      obtain ⟨hle3, r43, r53, hcr3, rfl⟩ := id hin3
      refine brBB (fun z => ?_) (fun z => ?_)
      · rw [if_neg (by rw [z]; decide)]
        exact ⟨rfl, hin3, rfl⟩
      · rw [if_pos z]
        refine ⟨1, _, rmo (by omega) (by decide), c_add (srt r.2) 0 hin3, ?_⟩
        rintro h' w ⟨hin4, rfl⟩
        exact ⟨rfl, hin4, rfl⟩
    by_cases q : isCm (srt r.2) = true
    · rw [if_pos q]
      refine br (fun _ => t18) (fun h1 => br (fun _ => t18) (fun h2 => ?_))
      exfalso
      simp only [isCm, Bool.or_eq_true, beq_iff_eq] at q
      exact q.elim h1 h2
    · rw [if_neg q]
      simp only [isCm, Bool.or_eq_true, beq_iff_eq] at q
      exact brF (fun z => q (Or.inl z)) (brF (fun z => q (Or.inr z)) ⟨rfl, hin2, rfl⟩)
end READ
end
section
-- 75.read2
/-! THE CLASS's reader: nots, ones, brackets, all depths; a whole text -/
section READ2
variable {l : Launch} {X : List (List Int32)} {S : CS} {T : AH} {t : Nat} {d d1 d2 : Nat}
theorem nbB {b : Bool} : narrow .boolean (.int (bB b)) = .int (bB b) := by cases b <;> rfl
def notP (cmp : GF) (prev : Option GF) (tp : List Int32) (t : Nat) : GF := fun p =>
  if srt p = 9 then (match prev with
    | none => (false, p)
    | some f => if (f (advP tp t p)).1 = true then (true, addP 9 0 (f (advP tp t p)).2) else (false, (f (advP tp t p)).2))
  else cmp p
set_option maxRecDepth 100000 in
set_option maxHeartbeats 4000000 in
theorem c_readNot (hL : CLen S) (ht : S.1 11 = nI t) (ht2 : t ≤ 160) {o : Int32} {cmp : GF} {prev : Option GF} (hd : 6 ≤ d) (hcmp : GC l X S T t d sgX1_readCompared o cmp)
    (h0 : prev = none → ¬ o < 5) (h1 : ∀ f, prev = some f → o < 5 ∧ GC l X S T t d1 sgX1_readNot (o + 1) f) (hd1 : d1 ≤ d) : GC l X S T t (d + 1) sgX1_readNot o (notP cmp prev (S.2 2) t) := by
  intro p h hin
  obtain ⟨hle, r4, r5, hcr, rfl⟩ := id hin
  refine Ctr.of okX1_readNot rfl (Nat.le_of_ble_eq_true rfl) (run_sound okX1_readNot noCut 100 ?_)
  unfold notP
  by_cases q : srt p = 9
  · rw [if_pos q]
    refine brT q ?_
    cases hp : prev with
    | none => exact brF (h0 hp) ⟨rfl, hin, rfl⟩
    | some f =>
      obtain ⟨ho, hf⟩ := h1 f hp
      refine brT ho ⟨6, _, rmo (by omega) (by decide), c_adv hL ht ht2 hin, ?_⟩
      rintro h' w ⟨hin', rfl⟩
      obtain ⟨hle', r4', r5', hcr', rfl⟩ := id hin'
      refine ⟨d1, _, rmo (by omega) (by decide), hf _ _ hin', ?_⟩
      rintro h' w ⟨hin2, rfl⟩
      obtain ⟨hle2, r42, r52, hcr2, rfl⟩ := id hin2
      refine brBB (fun z => ?_) (fun z => ?_)
      · show narrow .boolean (.int 0) = .int 0 ∧ GP S T t (if (f (advP (S.2 2) t p)).1 = true then _ else _) _ _
        rw [if_neg (by rw [z]; decide)]
        exact ⟨rfl, hin2, rfl⟩
      · refine ⟨1, _, rmo (by omega) (by decide), c_add 9 0 hin2, ?_⟩
        rintro h' w ⟨hin3, rfl⟩
        refine ⟨rfl, ?_⟩
        show GP S T t (if (f (advP (S.2 2) t p)).1 = true then _ else _) _ _
        rw [if_pos z]
        exact ⟨hin3, rfl⟩
  · rw [if_neg q]
    refine brF q ⟨d, _, rmo (by omega) (by decide), hcmp _ _ hin, ?_⟩
    rintro h' w ⟨hin2, rfl⟩
    exact ⟨nbB, hin2, rfl⟩
def bktP (orf : GF) (tp : List Int32) (t : Nat) : GF := fun p => if (orf p).1 = true then (if srt (orf p).2 = 41 then (true, advP tp t (orf p).2) else (false, (orf p).2)) else (false, (orf p).2)
set_option maxRecDepth 100000 in
set_option maxHeartbeats 4000000 in
theorem c_readBracket (hL : CLen S) (ht : S.1 11 = nI t) (ht2 : t ≤ 160) {o : Int32} {orf : GF} (hd : 6 ≤ d) (hor : GC l X S T t d sgX1_readOr o orf) : GC l X S T t (d + 1) sgX1_readBracket o (bktP orf (S.2 2) t) := by
  intro p h hin
  obtain ⟨hle, r4, r5, hcr, rfl⟩ := id hin
  refine Ctr.of okX1_readBracket rfl (Nat.le_of_ble_eq_true rfl) (run_sound okX1_readBracket noCut 100 ⟨d, _, rmo (by omega) (by decide), hor _ _ hin, ?_⟩)
  unfold bktP
  generalize orf p = r
  rintro h' w ⟨hin2, rfl⟩
  obtain ⟨hle2, r42, r52, hcr2, rfl⟩ := id hin2
  refine brBB (fun z => ?_) (fun z => ?_)
  · rw [if_neg (by rw [z]; decide)]
    exact ⟨rfl, hin2, rfl⟩
  · rw [if_pos z]
    by_cases q : srt r.2 = 41
    · rw [if_pos q]
      refine brT q ⟨6, _, rmo (by omega) (by decide), c_adv hL ht ht2 hin2, ?_⟩
      rintro h' w ⟨hin3, rfl⟩
      exact ⟨rfl, hin3, rfl⟩
    · rw [if_neg q]
      exact brF q ⟨rfl, hin2, rfl⟩
def oneM (prev : Option (GF × GF)) (tp : List Int32) (t : Nat) : GF := fun p => match prev with
  | none => (false, p)
  | some f => if srt p = 40 then bktP f.1 tp t (advP tp t p)
    else if (f.2 (advP tp t p)).1 = true then (true, addP 10 0 (f.2 (advP tp t p)).2) else (false, (f.2 (advP tp t p)).2)
def oneP (prev : Option (GF × GF)) (tp : List Int32) (t : Nat) : GF := fun p =>
  if srt p = 2 ∨ srt p = 3 then (true, advP tp t (addP (srt p) p.1.2.2.2 p))
  else if srt p = 45 ∨ srt p = 40 then oneM prev tp t p
  else (false, p)
set_option maxRecDepth 100000 in
set_option maxHeartbeats 4000000 in
theorem c_readOne (hL : CLen S) (ht : S.1 11 = nI t) (ht2 : t ≤ 160) {o : Int32} {prev : Option (GF × GF)} (hd : 6 ≤ d)
    (h0 : prev = none → ¬ o < 5) (h1 : ∀ f, prev = some f → o < 5 ∧ (d1 + 1 ≤ d ∧ 6 ≤ d1 ∧ d2 ≤ d) ∧ GC l X S T t d1 sgX1_readOr (o + 1) f.1 ∧ GC l X S T t d2 sgX1_readOne (o + 1) f.2) : GC l X S T t (d + 1) sgX1_readOne o (oneP prev (S.2 2) t) := by
  intro p h hin
  obtain ⟨hle, r4, r5, hcr, rfl⟩ := id hin
  refine Ctr.of okX1_readOne rfl (Nat.le_of_ble_eq_true rfl) (run_sound okX1_readOne (fun i => Nat.beq i 10 || Nat.beq i 36) 100 ?_)
  by_cases q : srt p = 2 ∨ srt p = 3
  · have e : oneP prev (S.2 2) t p = (true, advP (S.2 2) t (addP (srt p) p.1.2.2.2 p)) := if_pos q
    rw [e]
    have t10 : WP l (rmD (d + 1) 0 0) X sgX1_readOne kX1_readOne (GP S T t (true, advP (S.2 2) t (addP (srt p) p.1.2.2.2 p))) 10 [some (.ref 8), some (.int o), none] [] (encC (pS S p.1 r4 r5 p.2.length) ++ T) 0 0 := by
      refine run_sound okX1_readOne noCut 100 ⟨1, _, rmo (by omega) (by decide), c_add (srt p) p.1.2.2.2 hin, ?_⟩
      rintro h' w ⟨hin2, rfl⟩
      obtain ⟨hle2, r42, r52, hcr2, rfl⟩ := id hin2
      refine ⟨6, _, rmo (by omega) (by decide), c_adv hL ht ht2 hin2, ?_⟩
      rintro h' w ⟨hin3, rfl⟩
      exact ⟨rfl, hin3, rfl⟩
    exact br (fun _ => t10) (fun h1 => br (fun _ => t10) (fun h2 => absurd q (fun z => z.elim h1 h2)))
  · by_cases q2 : srt p = 45 ∨ srt p = 40
    · have e : oneP prev (S.2 2) t p = (oneM prev (S.2 2) t p) := (if_neg q).trans (if_pos q2)
      rw [e]
      have t36 : WP l (rmD (d + 1) 0 0) X sgX1_readOne kX1_readOne (GP S T t (oneM prev (S.2 2) t p)) 36 [some (.ref 8), some (.int o), none] [] (encC (pS S p.1 r4 r5 p.2.length) ++ T) 0 0 := by
        cases hp : prev with
        | none => exact run_sound okX1_readOne noCut 100 (brF (h0 hp) ⟨rfl, hin, rfl⟩)
        | some f =>
          obtain ⟨ho, ⟨hd1, hd0, hd2⟩, hf1, hf2⟩ := h1 f hp
          refine run_sound okX1_readOne noCut 100 (brT ho ?_)
          unfold oneM
          dsimp only
          by_cases q3 : srt p = 40
          · rw [if_pos q3]
            refine brT q3 ⟨6, _, rmo (by omega) (by decide), c_adv hL ht ht2 hin, ?_⟩
            rintro h' w ⟨hin2, rfl⟩
            obtain ⟨hle2, r42, r52, hcr2, rfl⟩ := id hin2
            refine brF (by decide) ⟨d1 + 1, _, rmo (by omega) (by decide), c_readBracket hL ht ht2 hd0 hf1 _ _ hin2, ?_⟩
            rintro h' w ⟨hin3, rfl⟩
            exact ⟨nbB, hin3, rfl⟩
          · rw [if_neg q3]
            refine brF q3 ⟨6, _, rmo (by omega) (by decide), c_adv hL ht ht2 hin, ?_⟩
            rintro h' w ⟨hin2, rfl⟩
            obtain ⟨hle2, r42, r52, hcr2, rfl⟩ := id hin2
            refine brT rfl ⟨d2, _, rmo (by omega) (by decide), hf2 _ _ hin2, ?_⟩
            rintro h' w ⟨hin3, rfl⟩
            obtain ⟨hle3, r43, r53, hcr3, rfl⟩ := id hin3
            refine brBB (fun z => ?_) (fun z => ?_)
            · rw [if_neg (by rw [z]; decide)]
              exact ⟨rfl, hin3, rfl⟩
            · rw [if_pos z]
              refine ⟨1, _, rmo (by omega) (by decide), c_add 10 0 hin3, ?_⟩
              rintro h' w ⟨hin4, rfl⟩
              exact ⟨rfl, hin4, rfl⟩
      refine brF (fun z => q (Or.inl z)) (brF (fun z => q (Or.inr z)) (br (fun _ => t36) (fun h1 => br (fun _ => t36) (fun h2 => absurd q2 (fun z => z.elim h1 h2)))))
    · have e : oneP prev (S.2 2) t p = (false, p) := (if_neg q).trans (if_neg q2)
      rw [e]
      exact brF (fun z => q (Or.inl z)) (brF (fun z => q (Or.inr z)) (brF (fun z => q2 (Or.inl z)) (brF (fun z => q2 (Or.inr z)) ⟨rfl, hin, rfl⟩)))
/-- the rules at a depth: or, not, one -/
def mkLv (tp : List Int32) (t : Nat) (prev : Option (GF × GF × GF)) : GF × GF × GF :=
  (binP (binP (notP (cmpP (binP (binP (oneP (prev.map (fun f => (f.1, f.2.2))) tp t) tp t (isS 42)) tp t isPM) tp t) (prev.map (fun f => f.2.1)) tp t) tp t (isS 8)) tp t (isS 7),
   notP (cmpP (binP (binP (oneP (prev.map (fun f => (f.1, f.2.2))) tp t) tp t (isS 42)) tp t isPM) tp t) (prev.map (fun f => f.2.1)) tp t,
   oneP (prev.map (fun f => (f.1, f.2.2))) tp t)
def lvP (tp : List Int32) (t : Nat) : Nat → GF × GF × GF
  | 0 => mkLv tp t none
  | n + 1 => mkLv tp t (some (lvP tp t n))
def LvOk (l : Launch) (X : List (List Int32)) (S : CS) (T : AH) (t d : Nat) (o : Int32) (f : GF × GF × GF) : Prop :=
  GC l X S T t (13 + d) sgX1_readOr o f.1 ∧ GC l X S T t (11 + d) sgX1_readNot o f.2.1 ∧ GC l X S T t (7 + d) sgX1_readOne o f.2.2
theorem mkLv_ok (hL : CLen S) (ht : S.1 11 = nI t) (ht2 : t ≤ 160) {o : Int32} {prev : Option (GF × GF × GF)} (h0 : prev = none → ¬ o < 5) (h1 : ∀ f, prev = some f → o < 5 ∧ 8 ≤ d ∧ LvOk l X S T t (d - 8) (o + 1) f) : LvOk l X S T t d o (mkLv (S.2 2) t prev) := by
  have c1 : GC l X S T t (7 + d) sgX1_readOne o (oneP (prev.map (fun f => (f.1, f.2.2))) (S.2 2) t) := by
    rw [show 7 + d = (6 + d) + 1 by omega]
    cases prev with
    | none => exact c_readOne (d1 := 6) (d2 := 0) hL ht ht2 (by omega) (fun _ => h0 rfl) (fun f z => by cases z)
    | some f =>
      obtain ⟨ho, hd, hf1, hf2, hf3⟩ := h1 f rfl
      exact c_readOne (d1 := 13 + (d - 8)) (d2 := 7 + (d - 8)) hL ht ht2 (by omega) (fun z => by cases z) (fun g z => by cases z; exact ⟨ho, ⟨by omega, by omega, by omega⟩, hf1, hf3⟩)
  have c2 := c_readTerm hL ht ht2 (d := 7 + d) (by omega) c1
  have c3 := c_readSum hL ht ht2 (d := 7 + d + 1) (by omega) c2
  have c4 := c_readCompared hL ht ht2 (d := 7 + d + 1 + 1) (by omega) c3
  have c5 : GC l X S T t (7 + d + 1 + 1 + 1 + 1) sgX1_readNot o (notP (cmpP (binP (binP (oneP (prev.map (fun f => (f.1, f.2.2))) (S.2 2) t) (S.2 2) t (isS 42)) (S.2 2) t isPM) (S.2 2) t) (prev.map (fun f => f.2.1)) (S.2 2) t) := by
    cases prev with
    | none => exact c_readNot (d1 := 0) hL ht ht2 (by omega) c4 (fun _ => h0 rfl) (fun f z => by cases z) (by omega)
    | some f =>
      obtain ⟨ho, hd, hf1, hf2, hf3⟩ := h1 f rfl
      exact c_readNot (d1 := 11 + (d - 8)) hL ht ht2 (by omega) c4 (fun z => by cases z) (fun g z => by cases z; exact ⟨ho, hf2⟩) (by omega)
  have c6 := c_readAnd hL ht ht2 (d := 7 + d + 1 + 1 + 1 + 1) (by omega) c5
  have c7 := c_readOr hL ht ht2 (d := 7 + d + 1 + 1 + 1 + 1 + 1) (by omega) c6
  refine ⟨?_, ?_, c1⟩
  · rw [show 13 + d = 7 + d + 1 + 1 + 1 + 1 + 1 + 1 by omega]
    exact c7
  · rw [show 11 + d = 7 + d + 1 + 1 + 1 + 1 by omega]
    exact c5
theorem lvP_ok (hL : CLen S) (ht : S.1 11 = nI t) (ht2 : t ≤ 160) : ∀ n, n ≤ 5 → LvOk l X S T t (8 * n) (nI (5 - n)) (lvP (S.2 2) t n)
  | 0, _ => mkLv_ok hL ht ht2 (fun _ => by decide) (fun f z => by cases z)
  | n + 1, hn => by
    have ih := lvP_ok hL ht ht2 n (by omega)
    refine mkLv_ok hL ht ht2 (fun z => by cases z) (fun f z => ?_)
    cases z
    refine ⟨nI_lt (b := 5) (by omega) (by decide), by omega, ?_⟩
    rw [show 8 * (n + 1) - 8 = 8 * n by omega, nI_1, show 5 - (n + 1) + 1 = 5 - n by omega]
    exact ih
end READ2
end
section
-- 76.eval
/-! THE CLASS's code, run -/
section EVAL
variable {l : Launch} {X : List (List Int32)} {S : CS} {T : AH} {hp : AH}
def pushS (v : Int32) (st : List Int32) : List Int32 := if st.length < 160 then v :: st else st
def InK (S : CS) (T : AH) (st : List Int32) (h : AH) : Prop := ∃ r7 : List Int32, r7.length = 160 ∧ st.length ≤ 160 ∧ r7.take st.length = st.reverse ∧ h = encC (cN (cR S 7 r7) 35 (nI st.length)) ++ T
set_option maxRecDepth 100000 in
theorem c_push (v : Int32) {st : List Int32} {h : AH} (hin : InK S T st h) : Ctr l 1 X sgX0_push [.ref 3, .int v] h (fun h w => InK S T (pushS v st) h ∧ w = none) := by
  obtain ⟨r7, h7, hl, e7, rfl⟩ := hin
  refine Ctr.of okX0_push rfl (Nat.le_of_ble_eq_true rfl) (run_sound okX0_push noCut 100 ?_)
  by_cases hc : st.length < 160
  · have e : pushS v st = v :: st := if_pos hc
    refine brT (nI_lt (b := 160) hc (by decide)) (kH (c_put (xs := r7) rfl rfl (by omega)) (by decide) (And.intro rfl (And.intro trivial ⟨rfl, ?_, rfl⟩)))
    rw [e]
    refine ⟨r7.set st.length v, by simpa using h7, by simp; omega, ?_, ?_⟩
    · rw [List.length_cons, List.reverse_cons]
      exact take_push e7 (by simp) (by omega) v
    · show encC (cN (cR S 7 (putF r7 (nI st.length) v)) 35 (nI st.length + 1)) ++ T = _
      rw [nI_1, putF_nI (by omega)]
      rfl
  · have e : pushS v st = st := if_neg hc
    refine brF (nI_nlt (b := 160) (by omega) (by omega)) ⟨rfl, ?_, rfl⟩
    rw [e]
    exact ⟨r7, h7, hl, e7, rfl⟩
set_option maxRecDepth 100000 in
theorem c_pop {st : List Int32} {h : AH} (hin : InK S T st h) : Ctr l 1 X sgX0_pop [.ref 3] h (fun h w => InK S T st.tail h ∧ w = some (.int (st.headD 0))) := by
  obtain ⟨r7, h7, hl, e7, rfl⟩ := hin
  refine Ctr.of okX0_pop rfl (Nat.le_of_ble_eq_true rfl) (run_sound okX0_pop noCut 100 ?_)
  cases st with
  | nil => exact brF (show ¬ (0 : Int32) < nI 0 by decide) ⟨⟨r7, h7, hl, e7, rfl⟩, rfl⟩
  | cons v r =>
    have hn : r.length + 1 ≤ 160 := hl
    have e1 : nI (r.length + 1) - Int32.ofInt 1 = nI r.length := nI_pred _
    have et : r7.take r.length = r.reverse := by
      have z := congrArg (List.take r.length) e7
      rw [List.length_cons, List.take_take, Nat.min_eq_left (by omega)] at z
      rw [z, List.reverse_cons, List.take_append_of_le_length (by simp)]
      exact List.take_of_length_le (by simp)
    have ev : r7.getD r.length 0 = v := by
      have z := congrArg (fun q : List Int32 => q[r.length]?) e7
      simp only [List.length_cons, List.reverse_cons] at z
      rw [List.getElem?_take_of_lt (by omega), List.getElem?_append_right (by simp)] at z
      rw [List.getD_eq_getElem?_getD, z]
      simp
    refine brT ?_ (And.intro rfl (And.intro trivial ?_))
    · show (0 : Int32) < nI (r.length + 1)
      exact nI_lt (a := 0) (by omega) (by omega)
    · have ca : Ans l 0 X sgX7_at [.ref 7, .int (nI (r.length + 1) - Int32.ofInt 1)] (encC (cN (cR S 7 r7) 35 (nI (r.length + 1) - Int32.ofInt 1)) ++ T) v := by
        rw [e1, ← ev, ← atF_nI _ (show r.length < 2 ^ 31 by omega)]
        exact c_at (xs := r7) rfl (by omega)
      refine kH ca (by decide) ⟨⟨r7, h7, show r.length ≤ 160 by omega, et, ?_⟩, rfl⟩
      rw [e1]
      rfl
def jnF (s a b : Int32) : Int32 :=
  if s = 8 then bI (¬ a = 0 ∧ ¬ b = 0) else if s = 42 then a * b else if s = 43 then a + b else if s = 45 then a - b else if s = 60 then bI (a < b) else if s = 61 then bI (a = b) else bI (¬ a = 0 ∨ ¬ b = 0)
set_option maxRecDepth 100000 in
theorem c_joined (s a b : Int32) : Ans l 0 X sgX0_joined [.int s, .int a, .int b] hp (jnF s a b) := by
  refine Ctr.of okX0_joined rfl (Nat.le_of_ble_eq_true rfl) (run_sound okX0_joined noCut 100 ?_)
  refine And.intro (fun h => ?_) (And.intro (fun h => ?_) (And.intro (fun h => ?_) (And.intro (fun h => ?_) (And.intro (fun h => ?_) (And.intro (fun h => ?_) (And.intro (fun h => ?_) trivial))))))
  · have n8 : ¬ s = 8 := h (8, 93) (by decide)
    have n42 : ¬ s = 42 := h (42, 67) (by decide)
    have n43 : ¬ s = 43 := h (43, 59) (by decide)
    have n45 : ¬ s = 45 := h (45, 63) (by decide)
    have n60 : ¬ s = 60 := h (60, 71) (by decide)
    have n61 : ¬ s = 61 := h (61, 82) (by decide)
    have e : jnF s a b = bI (¬ a = 0 ∨ ¬ b = 0) := by
      unfold jnF
      rw [if_neg n8, if_neg n42, if_neg n43, if_neg n45, if_neg n60, if_neg n61]
    rw [e]
    exact br (fun h1 => br (fun h2 => ⟨rfl, some_int (bIe0 (fun z => z.elim (fun y => y h1) (fun y => y h2)))⟩) (fun h2 => ⟨rfl, some_int (bIe1 (Or.inr h2))⟩)) (fun h1 => ⟨rfl, some_int (bIe1 (Or.inl h1))⟩)
  · subst h
    exact br (fun h1 => ⟨rfl, some_int (bIe0 (fun z => z.1 h1))⟩) (fun h1 => br (fun h2 => ⟨rfl, some_int (bIe0 (fun z => z.2 h2))⟩) (fun h2 => ⟨rfl, some_int (bIe1 ⟨h1, h2⟩)⟩))
  · subst h; exact ⟨rfl, rfl⟩
  · subst h; exact ⟨rfl, rfl⟩
  · subst h; exact ⟨rfl, rfl⟩
  · subst h
    exact br (fun h1 => ⟨rfl, some_int (bIe0 (fun z => absurd z (Int32.not_lt.mpr h1)))⟩) (fun h1 => ⟨rfl, some_int (bIe1 (Int32.not_le.mp h1))⟩)
  · subst h
    exact br (fun h1 => ⟨rfl, some_int (bIe1 h1)⟩) (fun h1 => ⟨rfl, some_int (bIe0 h1)⟩)
def stepC (w who : Int32) (st : List Int32) (x : Int32 × Int32) : List Int32 :=
  if x.1 = 2 then pushS x.2 st else if x.1 = 3 then pushS (if x.2 = 5 then who else bitF w x.2) st
  else if x.1 = 9 then pushS (bI (st.headD 0 = 0)) st.tail else if x.1 = 10 then pushS (-(st.headD 0)) st.tail
  else pushS (jnF x.1 (st.tail.headD 0) (st.headD 0)) st.tail.tail
theorem stepC_3 {w who v : Int32} {st : List Int32} : stepC w who st (3, v) = pushS (if v = 5 then who else bitF w v) st := by
  have a : ¬ (3 : Int32) = 2 := by decide
  exact (if_neg a).trans (if_pos rfl)
theorem stepC_9 {w who v : Int32} {st : List Int32} : stepC w who st (9, v) = pushS (bI (st.headD 0 = 0)) st.tail := by
  have a : ¬ (9 : Int32) = 2 := by decide
  have b : ¬ (9 : Int32) = 3 := by decide
  exact (if_neg a).trans ((if_neg b).trans (if_pos rfl))
theorem stepC_10 {w who v : Int32} {st : List Int32} : stepC w who st (10, v) = pushS (-(st.headD 0)) st.tail := by
  have a : ¬ (10 : Int32) = 2 := by decide
  have b : ¬ (10 : Int32) = 3 := by decide
  have c : ¬ (10 : Int32) = 9 := by decide
  exact (if_neg a).trans ((if_neg b).trans ((if_neg c).trans (if_pos rfl)))
abbrev stQ (S : CS) (T : AH) (st : List Int32) : AH → Option Value → Prop := fun h w => InK S T st h ∧ w = none
set_option maxRecDepth 100000 in
set_option maxHeartbeats 4000000 in
theorem c_step (s v w who : Int32) {st : List Int32} {h : AH} (hin : InK S T st h) : Ctr l 2 X sgX0_step [.ref 3, .int s, .int v, .int w, .int who] h (stQ S T (stepC w who st (s, v))) := by
  obtain ⟨r7, h7, hl, e7, rfl⟩ := id hin
  have bin : ¬ s = 2 → ¬ s = 3 → ¬ s = 9 → ¬ s = 10 → WP l (rmD 2 0 0) X sgX0_step kX0_step (stQ S T (stepC w who st (s, v))) 32 [some (.ref 3), some (.int s), some (.int v), some (.int w), some (.int who), none] [] (encC (cN (cR S 7 r7) 35 (nI st.length)) ++ T) 0 0 := by
    intro n2 n3 n9 n10
    have e : stepC w who st (s, v) = pushS (jnF s (st.tail.headD 0) (st.headD 0)) st.tail.tail := (if_neg n2).trans ((if_neg n3).trans ((if_neg n9).trans (if_neg n10)))
    rw [e]
    refine run_sound okX0_step noCut 100 ⟨1, _, by decide, c_pop hin, ?_⟩
    rintro h' w' ⟨hin1, rfl⟩
    obtain ⟨r71, h71, hl1, e71, rfl⟩ := id hin1
    refine ⟨1, _, by decide, c_pop hin1, ?_⟩
    rintro h' w' ⟨hin2, rfl⟩
    obtain ⟨r72, h72, hl2, e72, rfl⟩ := id hin2
    refine kH (c_joined _ _ _) (by decide) ⟨1, _, by decide, c_push _ hin2, ?_⟩
    rintro h' w' ⟨hin3, rfl⟩
    exact ⟨rfl, hin3, rfl⟩
  refine Ctr.of okX0_step rfl (Nat.le_of_ble_eq_true rfl) (run_sound okX0_step (fun i => Nat.beq i 32) 100 ?_)
  refine And.intro (fun h => ?_) (And.intro (fun h => ?_) (And.intro (fun h => ?_) (And.intro (fun h => ?_) (And.intro (fun h => ?_) (And.intro (fun h => ?_) (And.intro (fun h => ?_) (And.intro (fun h => ?_) (And.intro (fun h => ?_) (And.intro (fun h => ?_) trivial)))))))))
  · have no : ∀ k : Int32, 2 ≤ k.toInt → k.toInt ≤ 10 → ¬ s = k := fun k h1 h2 z => by subst z; omega
    exact bin (no _ (by decide) (by decide)) (no _ (by decide) (by decide)) (no _ (by decide) (by decide)) (no _ (by decide) (by decide))
  · subst h
    refine ⟨1, _, by decide, c_push v hin, ?_⟩
    rintro h' w' ⟨hin3, rfl⟩
    exact ⟨rfl, hin3, rfl⟩
  · subst h
    have e : stepC w who st (Int32.ofInt (2 + 1), v) = pushS (if v = 5 then who else bitF w v) st := stepC_3
    rw [e]
    refine br (fun h1 => ?_) (fun h1 => ?_)
    · have h1 : v = 5 := h1
      rw [if_pos h1]
      refine ⟨1, _, by decide, c_push who hin, ?_⟩
      rintro h' w' ⟨hin3, rfl⟩
      exact ⟨rfl, hin3, rfl⟩
    · have h1 : ¬ v = 5 := h1
      rw [if_neg h1]
      refine kH (c_bit w v) (by decide) ⟨1, _, by decide, c_push (bitF w v) hin, ?_⟩
      rintro h' w' ⟨hin3, rfl⟩
      exact ⟨rfl, hin3, rfl⟩
  · subst h; exact bin (by decide) (by decide) (by decide) (by decide)
  · subst h; exact bin (by decide) (by decide) (by decide) (by decide)
  · subst h; exact bin (by decide) (by decide) (by decide) (by decide)
  · subst h; exact bin (by decide) (by decide) (by decide) (by decide)
  · subst h; exact bin (by decide) (by decide) (by decide) (by decide)
  · subst h
    refine ⟨1, _, by decide, c_pop hin, ?_⟩
    rintro h' w' ⟨hin1, rfl⟩
    obtain ⟨r71, h71, hl1, e71, rfl⟩ := id hin1
    have e : ∀ x : Int32, x = bI (st.headD 0 = 0) → ∀ (h' : AH) (w' : Option Value), InK S T (pushS x st.tail) h' ∧ w' = none → InK S T (stepC w who st (9, v)) h' ∧ w' = none := by
      intro x hx h' w' z
      have e : stepC w who st (9, v) = pushS (bI (st.headD 0 = 0)) st.tail := stepC_9
      rw [e, ← hx]
      exact z
    refine br (fun h1 => ⟨1, _, by decide, c_push 1 hin1, ?_⟩) (fun h1 => ⟨1, _, by decide, c_push 0 hin1, ?_⟩)
    · rintro h' w' z
      obtain ⟨z1, z2⟩ := e 1 (bI_t h1).symm h' w' z
      subst z2
      exact ⟨rfl, z1, rfl⟩
    · rintro h' w' z
      obtain ⟨z1, z2⟩ := e 0 (bI_f h1).symm h' w' z
      subst z2
      exact ⟨rfl, z1, rfl⟩
  · subst h
    refine ⟨1, _, by decide, c_pop hin, ?_⟩
    rintro h' w' ⟨hin1, rfl⟩
    obtain ⟨r71, h71, hl1, e71, rfl⟩ := id hin1
    have e : stepC w who st (Int32.ofInt (2 + 1 + 1 + 1 + 1 + 1 + 1 + 1 + 1), v) = pushS (-(st.headD 0)) st.tail := stepC_10
    rw [e]
    refine ⟨1, _, by decide, c_push _ hin1, ?_⟩
    rintro h' w' ⟨hin3, rfl⟩
    exact ⟨rfl, hin3, rfl⟩
/-- the stack as it comes -/
def InW (S : CS) (T : AH) (h : AH) : Prop := ∃ (r7 : List Int32) (m : Int32), r7.length = 160 ∧ h = encC (cN (cR S 7 r7) 35 m) ++ T
theorem InK.w {st : List Int32} {h : AH} (hin : InK S T st h) : InW S T h := by
  obtain ⟨r7, h7, -, -, e⟩ := hin
  exact ⟨r7, _, h7, e⟩
/-- a part of the code, run -/
def segC (c : List (Int32 × Int32)) (a b : Nat) : List (Int32 × Int32) := (c.drop a).take (b - a)
def runC (w who : Int32) (c : List (Int32 × Int32)) (st : List Int32) : List Int32 := c.foldl (stepC w who) st
def valC (w who : Int32) (c : List (Int32 × Int32)) : Int32 := (runC w who c []).headD 0
theorem segC_cons {c : List (Int32 × Int32)} {a b : Nat} (h : a < b) (hb : b ≤ c.length) : segC c a b = c.getD a (0, 0) :: segC c (a + 1) b := by
  unfold segC
  rw [show b - a = (b - (a + 1)) + 1 by omega, List.drop_eq_getElem_cons (show a < c.length by omega), List.take_succ_cons]
  rw [List.getD_eq_getElem?_getD, List.getElem?_eq_getElem (show a < c.length by omega)]
  rfl
theorem CR.at4 {r4 r5 : List Int32} {c : List (Int32 × Int32)} (h : CR r4 r5 c) {i : Nat} (hi : i < c.length) : r4.getD i 0 = (c.getD i (0, 0)).1 ∧ r5.getD i 0 = (c.getD i (0, 0)).2 := by
  obtain ⟨h4, h5, hl, e4, e5⟩ := h
  constructor
  · have z := congrArg (fun q : List Int32 => q[i]?) e4
    simp only [List.getElem?_take_of_lt hi, List.getElem?_map] at z
    rw [List.getD_eq_getElem?_getD, z, List.getD_eq_getElem?_getD]
    cases c[i]? <;> rfl
  · have z := congrArg (fun q : List Int32 => q[i]?) e5
    simp only [List.getElem?_take_of_lt hi, List.getElem?_map] at z
    rw [List.getD_eq_getElem?_getD, z, List.getD_eq_getElem?_getD]
    cases c[i]? <;> rfl
set_option maxRecDepth 100000 in
set_option maxHeartbeats 4000000 in
theorem c_valueOf {c : List (Int32 × Int32)} (hcr : CR (S.2 4) (S.2 5) c) (h6 : (S.2 6).length < 2 ^ 31) {part : Int32} {a b : Nat} (ha : atF (S.2 6) part = nI a) (hb : atF (S.2 6) (part + 1) = nI b) (hab : a ≤ b) (hbc : b ≤ c.length) (w who : Int32) {h : AH} (hin : InW S T h) :
    Ctr l 3 X sgX0_valueOf [.ref 3, .int part, .int w, .int who] h (fun h x => InW S T h ∧ x = some (.int (valC w who (segC c a b)))) := by
  obtain ⟨r7, m7, h7, rfl⟩ := hin
  have hc160 : c.length ≤ 160 := hcr.2.2.1
  have ca : ∀ S' : CS, S'.2 6 = S.2 6 → Ans l 0 X sgX7_at [.ref 6, .int part] (encC S' ++ T) (nI a) := by
    intro S' hS'
    rw [← ha, ← hS']
    exact c_at (xs := S'.2 6) rfl (by rw [hS']; exact h6)
  have cb : ∀ S' : CS, S'.2 6 = S.2 6 → Ans l 0 X sgX7_at [.ref 6, .int (part + Int32.ofInt 1)] (encC S' ++ T) (nI b) := by
    intro S' hS'
    have hb' : atF (S.2 6) (part + Int32.ofInt 1) = nI b := hb
    rw [← hb', ← hS']
    exact c_at (xs := S'.2 6) rfl (by rw [hS']; exact h6)
  have key : ∀ i, i ≤ b → a ≤ i → ∀ (st : List Int32) (h : AH), InK S T st h → runC w who (segC c i b) st = runC w who (segC c a b) [] → WP l (rmD 3 0 0) X sgX0_valueOf kX0_valueOf (fun h x => InW S T h ∧ x = some (.int (valC w who (segC c a b)))) 15 [some (.ref 3), some (.int part), some (.int w), some (.int who), some (.int (nI b)), some (.int (nI i))] [] h 0 0 := by
    refine down (fun hai st h hin hr => ?_) (fun i hi ih hai st h hin hr => ?_)
    · obtain ⟨r7, h7, hl, e7, rfl⟩ := id hin
      refine run_sound okX0_valueOf (fun i => Nat.beq i 15) 100 (brT (Int32.le_refl _) ⟨1, _, by decide, c_pop hin, ?_⟩)
      rintro h' w' ⟨hin2, rfl⟩
      refine ⟨hin2.w, some_int ?_⟩
      unfold valC
      rw [← hr]
      have e : segC c b b = [] := by unfold segC; rw [Nat.sub_self]; rfl
      rw [e]
      rfl
    · obtain ⟨r7, h7, hl, e7, rfl⟩ := id hin
      have hx := hcr.at4 (show i < c.length by omega)
      rw [segC_cons hi hbc] at hr
      have c4 : Ans l 0 X sgX7_at [.ref 4, .int (nI i)] (encC (cN (cR S 7 r7) 35 (nI st.length)) ++ T) (c.getD i (0, 0)).1 := by
        rw [← hx.1, ← atF_nI _ (show i < 2 ^ 31 by omega)]
        exact c_at (xs := S.2 4) rfl (by rw [hcr.1]; decide)
      have c5 : Ans l 0 X sgX7_at [.ref 5, .int (nI i)] (encC (cN (cR S 7 r7) 35 (nI st.length)) ++ T) (c.getD i (0, 0)).2 := by
        rw [← hx.2, ← atF_nI _ (show i < 2 ^ 31 by omega)]
        exact c_at (xs := S.2 5) rfl (by rw [hcr.2.1]; decide)
      refine run_sound okX0_valueOf (fun i => Nat.beq i 15) 100 (brF (nI_ge hi (by omega)) (kH c4 (by decide) (kH c5 (by decide) ⟨2, _, by decide, c_step _ _ w who hin, ?_⟩)))
      rintro h' w' ⟨hin2, rfl⟩
      have ih := ih (by omega) _ _ hin2 hr
      rw [← nI_1 i] at ih
      exact ih
  refine Ctr.of okX0_valueOf rfl (Nat.le_of_ble_eq_true rfl) (run_sound okX0_valueOf (fun i => Nat.beq i 15) 100 ?_)
  exact And.intro trivial (kH (cb (cN (cR S 7 r7) 35 0) rfl) (by decide) (kH (ca (cN (cR S 7 r7) 35 0) rfl) (by decide) (key a hab (Nat.le_refl _) [] _ ⟨r7, h7, by decide, rfl, rfl⟩ rfl)))
def trC (who : Int32) (c : List (Int32 × Int32)) : Nat → Int32
  | 0 => 0
  | w + 1 => if valC (nI w) who c = 0 then trC who c w else trC who c w ||| ((1 : Int32) <<< (nI w &&& 31))
set_option maxRecDepth 100000 in
set_option maxHeartbeats 4000000 in
theorem c_truths {c : List (Int32 × Int32)} (hcr : CR (S.2 4) (S.2 5) c) (h6 : (S.2 6).length < 2 ^ 31) {part : Int32} {a b : Nat} (ha : atF (S.2 6) part = nI a) (hb : atF (S.2 6) (part + 1) = nI b) (hab : a ≤ b) (hbc : b ≤ c.length) (who : Int32) {h : AH} (hin : InW S T h) :
    Ctr l 4 X sgX0_truths [.ref 3, .int part, .int who] h (fun h x => InW S T h ∧ x = some (.int (trC who (segC c a b) 32))) := by
  obtain ⟨r7, m7, h7, rfl⟩ := id hin
  refine Ctr.of okX0_truths rfl (Nat.le_of_ble_eq_true rfl) (run_sound okX0_truths (fun i => Nat.beq i 4) 100 ?_)
  have key : ∀ j, j ≤ 32 → ∀ (h : AH), InW S T h → WP l (rmD 4 0 0) X sgX0_truths kX0_truths (fun h x => InW S T h ∧ x = some (.int (trC who (segC c a b) 32))) 4 [some (.ref 3), some (.int part), some (.int who), some (.int (trC who (segC c a b) j)), some (.int (nI j))] [] h 0 0 := by
    refine down (fun h hin => ?_) (fun j hj ih h hin => ?_)
    · obtain ⟨r7, m7, h7, rfl⟩ := id hin
      exact run_sound okX0_truths (fun i => Nat.beq i 4) 100 (brT (Int32.le_refl _) ⟨hin, rfl⟩)
    · obtain ⟨r7, m7, h7, rfl⟩ := id hin
      refine run_sound okX0_truths (fun i => Nat.beq i 4) 100 (brF (ge_no (n := 32) rfl hj (by decide)) ⟨3, _, by decide, c_valueOf hcr h6 ha hb hab hbc (nI j) who hin, ?_⟩)
      rintro h' w' ⟨hin2, rfl⟩
      obtain ⟨r72, m72, h72, rfl⟩ := id hin2
      refine br (fun q => ?_) (fun q => ?_)
      · have ih := ih _ hin2
        rw [show trC who (segC c a b) (j + 1) = trC who (segC c a b) j from if_pos q, ← nI_1 j] at ih
        exact ih
      · have ih := ih _ hin2
        rw [show trC who (segC c a b) (j + 1) = trC who (segC c a b) j ||| ((1 : Int32) <<< (nI j &&& 31)) from if_neg q, ← nI_1 j] at ih
        exact ih
  exact key 0 (Nat.zero_le _) _ hin
end EVAL
end
section
-- 77.textc
/-! THE CLASS's text: read, and kept -/
section TEXTC
variable {l : Launch} {X : List (List Int32)} {S : CS} {T : AH} {t : Nat}
/-- a row of what all say, written for one more text -/
def adR (f : Int32 → Int32) (xs : List Int32) (n : Int32) : Nat → List Int32
  | 0 => xs
  | k + 1 => putF (adR f xs n k) (n * 5 + nI k) (f (nI k))
theorem adR_len {f : Int32 → Int32} {xs : List Int32} {n : Int32} : ∀ k, (adR f xs n k).length = xs.length
  | 0 => rfl
  | k + 1 => by rw [adR, putF_len, adR_len k]
/-- a text's parts -/
def prts (c : List (Int32 × Int32)) (st : List Int32) (p : Nat) : List (Int32 × Int32) := segC c (st.getD p 0).toNatClampNeg (st.getD (p + 1) 0).toNatClampNeg
def onR (c : List (Int32 × Int32)) (st : List Int32) (p : Nat) (who : Int32) : Int32 := trC who (prts c st p) 32
def coR (c : List (Int32 × Int32)) (st : List Int32) (who : Int32) : Int32 := maxF 0 (minF 99 (valC 0 who (prts c st 2)))
/-- the three parts begin and end in the code -/
def StOk (c : List (Int32 × Int32)) (st : List Int32) : Prop := st.length = 4 ∧ ∃ a b e : Nat, st = [0, nI a, nI b, nI e] ∧ a ≤ b ∧ b ≤ e ∧ e ≤ c.length
def addX (S : CS) (c : List (Int32 × Int32)) (k : Nat) : CS := cR (cR (cR S 10 (adR (onR c (S.2 6) 0) (S.2 10) (S.1 93) k)) 11 (adR (onR c (S.2 6) 1) (S.2 11) (S.1 93) k)) 12 (adR (coR c (S.2 6)) (S.2 12) (S.1 93) k)
theorem addX_len {c : List (Int32 × Int32)} (hL : CLen S) (k : Nat) : CLen (addX S c k) := by
  intro j
  show (uf (uf (uf S.2 10 _) 11 _) 12 _ j).length ≤ 1000
  unfold uf
  split
  · rw [adR_len]; exact hL 12
  · split
    · rw [adR_len]; exact hL 11
    · split
      · rw [adR_len]; exact hL 10
      · exact hL j
set_option maxRecDepth 100000 in
set_option maxHeartbeats 4000000 in
theorem c_addText (hL : CLen S) {c : List (Int32 × Int32)} (hcr : CR (S.2 4) (S.2 5) c) (hst : StOk c (S.2 6)) (hn : S.1 93 < 6) {h : AH} (hin : InW S T h) :
    Ctr l 5 X sgX5_add [.ref 9, .ref 3] h (fun h x => InW (cN (addX S c 5) 93 (S.1 93 + 1)) T h ∧ x = none) := by
  have hl : ∀ k, (S.2 k).length < 2 ^ 31 := fun k => Nat.lt_of_le_of_lt (hL k) (by decide)
  obtain ⟨h4, a, b, e, hs, hab, hbe, hec⟩ := hst
  have hc160 : c.length ≤ 160 := hcr.2.2.1
  have g0 : (S.2 6).getD 0 0 = nI 0 := by rw [hs]; rfl
  have g1 : (S.2 6).getD 1 0 = nI a := by rw [hs]; rfl
  have g2 : (S.2 6).getD 2 0 = nI b := by rw [hs]; rfl
  have g3 : (S.2 6).getD 3 0 = nI e := by rw [hs]; rfl
  have p0 : prts c (S.2 6) 0 = segC c 0 a := by unfold prts; rw [g0, g1, nI_clamp (by omega), nI_clamp (by omega)]
  have p1 : prts c (S.2 6) 1 = segC c a b := by unfold prts; rw [g1, g2, nI_clamp (by omega), nI_clamp (by omega)]
  have p2 : prts c (S.2 6) 2 = segC c b e := by unfold prts; rw [g2, g3, nI_clamp (by omega), nI_clamp (by omega)]
  have q0 : atF (S.2 6) 0 = nI 0 := by rw [hs]; rfl
  have q1 : atF (S.2 6) (0 + 1) = nI a := by rw [hs]; rfl
  have q1' : atF (S.2 6) 1 = nI a := by rw [hs]; rfl
  have q2 : atF (S.2 6) (1 + 1) = nI b := by rw [hs]; rfl
  have q2' : atF (S.2 6) 2 = nI b := by rw [hs]; rfl
  have q3 : atF (S.2 6) (2 + 1) = nI e := by rw [hs]; rfl
  have key : ∀ j, j ≤ 5 → ∀ (h : AH) x3, InW (addX S c j) T h → WP l (rmD 5 0 0) X sgX5_add kX5_add (fun h x => InW (cN (addX S c 5) 93 (S.1 93 + 1)) T h ∧ x = none) 7 [some (.ref 9), some (.ref 3), some (.int (nI j)), x3] [] h 0 0 := by
    refine down (fun h x3 hin => ?_) (fun j hj ih h x3 hin => ?_)
    · obtain ⟨r7, m7, h7, rfl⟩ := hin
      exact run_sound okX5_add (fun i => Nat.beq i 7) 100 (brT (Int32.le_refl _) (And.intro rfl (And.intro trivial ⟨rfl, ⟨r7, m7, h7, rfl⟩, rfl⟩)))
    · have hl' := addX_len (c := c) hL j
      have hx : ∀ k, ((addX S c j).2 k).length < 2 ^ 31 := fun k => Nat.lt_of_le_of_lt (hl' k) (by decide)
      obtain ⟨r7, m7, h7, rfl⟩ := id hin
      have t1 := c_truths (l := l) (X := X) (T := T) (S := addX S c j) hcr (hl 6) q0 q1 (Nat.zero_le _) (by omega) (nI j) hin
      refine run_sound okX5_add (fun i => Nat.beq i 7) 100 (brF (ge_no (n := 5) rfl hj (by decide)) ⟨4, _, by decide, t1, ?_⟩)
      rintro h' w' ⟨hin1, rfl⟩
      obtain ⟨r71, m71, h71, rfl⟩ := id hin1
      refine kH (c_put (xs := (addX S c j).2 10) rfl rfl (hx 10)) (by decide) ?_
      obtain ⟨S1, hS1⟩ : ∃ S1, S1 = cR (addX S c j) 10 (putF ((addX S c j).2 10) ((addX S c j).1 93 * Int32.ofInt 5 + nI j) (trC (nI j) (segC c 0 a) 32)) := ⟨_, rfl⟩
      have hin2 : InW S1 T (encC (cN (cR S1 7 r71) 35 m71) ++ T) := ⟨r71, m71, h71, rfl⟩
      have t2 := c_truths (l := l) (X := X) (T := T) (S := S1) (c := c) (by subst hS1; exact hcr) (by subst hS1; exact hl 6) (part := 1) (a := a) (b := b) (by subst hS1; exact q1') (by subst hS1; exact q2) hab (by omega) (nI j) hin2
      rw [hS1] at t2
      refine ⟨4, _, by decide, t2, ?_⟩
      rintro h' w' ⟨hin3, rfl⟩
      obtain ⟨r72, m72, h72, rfl⟩ := id hin3
      refine kH (c_put (xs := (addX S c j).2 11) rfl rfl (hx 11)) (by decide) ?_
      obtain ⟨S2, hS2⟩ : ∃ S2, S2 = cR (cR (addX S c j) 10 (putF ((addX S c j).2 10) ((addX S c j).1 93 * Int32.ofInt 5 + nI j) (trC (nI j) (segC c 0 a) 32))) 11 (putF ((addX S c j).2 11) ((addX S c j).1 93 * Int32.ofInt 5 + nI j) (trC (nI j) (segC c a b) 32)) := ⟨_, rfl⟩
      have hin4 : InW S2 T (encC (cN (cR S2 7 r72) 35 m72) ++ T) := ⟨r72, m72, h72, rfl⟩
      have t3 := c_valueOf (l := l) (X := X) (T := T) (S := S2) (c := c) (by subst hS2; exact hcr) (by subst hS2; exact hl 6) (part := 2) (a := b) (b := e) (by subst hS2; exact q2') (by subst hS2; exact q3) hbe hec 0 (nI j) hin4
      rw [hS2] at t3
      refine ⟨3, _, by decide, t3, ?_⟩
      rintro h' w' ⟨hin5, rfl⟩
      obtain ⟨r73, m73, h73, rfl⟩ := id hin5
      refine And.intro ⟨rfl, by decide, by decide⟩ (And.intro ⟨rfl, by decide, by decide⟩ (kH (c_put (xs := (addX S c j).2 12) rfl rfl (hx 12)) (by decide) ?_))
      have ih := ih (encC (cN (cR (addX S c (j + 1)) 7 r73) 35 m73) ++ T) (some (.int ((addX S c j).1 93 * Int32.ofInt 5 + nI j))) ⟨r73, m73, h73, rfl⟩
      have w0 : onR c (S.2 6) 0 (nI j) = trC (nI j) (segC c 0 a) 32 := by unfold onR; rw [p0]
      have w1 : onR c (S.2 6) 1 (nI j) = trC (nI j) (segC c a b) 32 := by unfold onR; rw [p1]
      have w2 : coR c (S.2 6) (nI j) = maxF 0 (minF 99 (valC 0 (nI j) (segC c b e))) := by unfold coR; rw [p2]
      have ex : addX S c (j + 1) = cR (cR (cR S 10 (putF (adR (onR c (S.2 6) 0) (S.2 10) (S.1 93) j) (S.1 93 * 5 + nI j) (trC (nI j) (segC c 0 a) 32))) 11 (putF (adR (onR c (S.2 6) 1) (S.2 11) (S.1 93) j) (S.1 93 * 5 + nI j) (trC (nI j) (segC c a b) 32))) 12 (putF (adR (coR c (S.2 6)) (S.2 12) (S.1 93) j) (S.1 93 * 5 + nI j) (maxF 0 (minF 99 (valC 0 (nI j) (segC c b e))))) := by
        unfold addX
        rw [adR, adR, adR, w0, w1, w2]
      rw [ex, ← nI_1 j] at ih
      exact ih
  obtain ⟨r7, m7, h7, rfl⟩ := id hin
  refine Ctr.of okX5_add rfl (Nat.le_of_ble_eq_true rfl) (run_sound okX5_add (fun i => Nat.beq i 7) 100 (brT hn (key 0 (Nat.zero_le _) _ none hin)))
def tokP (s : Int32) (tp : List Int32) (t : Nat) : GF := fun p => if srt p = s then (true, advP tp t p) else (false, p)
set_option maxRecDepth 100000 in
theorem c_readToken (hL : CLen S) (ht : S.1 11 = nI t) (ht2 : t ≤ 160) (s : Int32) {p : PS} {h : AH} (hin : InC S T t p h) : Ctr l 7 X sgX1_readToken [.ref 8, .int s] h (GP S T t (tokP s (S.2 2) t p)) := by
  obtain ⟨hle, r4, r5, hcr, rfl⟩ := id hin
  refine Ctr.of okX1_readToken rfl (Nat.le_of_ble_eq_true rfl) (run_sound okX1_readToken noCut 100 ?_)
  by_cases q : srt p = s
  · rw [show tokP s (S.2 2) t p = (true, advP (S.2 2) t p) from if_pos q]
    refine brT q ⟨6, _, by decide, c_adv hL ht ht2 hin, ?_⟩
    rintro h' w' ⟨hin2, rfl⟩
    exact ⟨rfl, hin2, rfl⟩
  · rw [show tokP s (S.2 2) t p = (false, p) from if_neg q]
    exact brF q ⟨rfl, hin, rfl⟩
/-- the parts from one on -/
def rtP (orf : GF) (tp : List Int32) (t : Nat) : Nat → Nat → PS → List Int32 → Bool × PS × List Int32
  | 0, _, p, st => (if srt p = 0 then true else false, p, st)
  | m + 1, k, p, st => if srt p = 4 + nI k then
      (if (orf (advP tp t p)).1 = true then
        (if srt (orf (advP tp t p)).2 = 59 then rtP orf tp t m (k + 1) (advP tp t (orf (advP tp t p)).2) (putF st (nI k + 1) (nI (orf (advP tp t p)).2.2.length))
        else (false, (orf (advP tp t p)).2, putF st (nI k + 1) (nI (orf (advP tp t p)).2.2.length)))
      else (false, (orf (advP tp t p)).2, st))
    else (false, p, st)
abbrev rtQ (S : CS) (T : AH) (t : Nat) (R : Bool × PS × List Int32) : AH → Option Value → Prop := fun h w => InC (cR S 6 R.2.2) T t R.2.1 h ∧ w = some (.int (bB R.1))
theorem cR6_len {st : List Int32} (hL : CLen S) (h : st.length ≤ 1000) : CLen (cR S 6 st) := by
  intro j
  show (uf S.2 6 st j).length ≤ 1000
  unfold uf
  split
  · exact h
  · exact hL j
set_option maxRecDepth 100000 in
theorem c_clear : Ctr l 0 X sgX0_clear [.ref 3] (encC S ++ T) (kV (encC (cN S 34 0) ++ T)) := by
  refine Ctr.of okX0_clear rfl (Nat.le_of_ble_eq_true rfl) (run_sound okX0_clear noCut 200 ?_)
  exact And.intro trivial ⟨rfl, rfl, rfl⟩
set_option maxRecDepth 100000 in
theorem c_endPart {st : List Int32} (hs : st.length < 2 ^ 31) (part : Int32) {p : PS} {h : AH} (hin : InC (cR S 6 st) T t p h) : Ctr l 1 X sgX0_endPart [.ref 3, .int part] h (fun h w => InC (cR S 6 (putF st (part + 1) (nI p.2.length))) T t p h ∧ w = none) := by
  obtain ⟨hle, r4, r5, hcr, rfl⟩ := hin
  refine Ctr.of okX0_endPart rfl (Nat.le_of_ble_eq_true rfl) (run_sound okX0_endPart noCut 200 ?_)
  exact kH (c_put (xs := st) rfl rfl hs) (by decide) ⟨rfl, ⟨hle, r4, r5, hcr, rfl⟩, rfl⟩
def cNrt (i : Nat) : Bool := Nat.beq i 8
set_option maxRecDepth 100000 in
set_option maxHeartbeats 4000000 in
theorem c_readText (hL : CLen S) (ht : S.1 11 = nI t) (ht2 : t ≤ 160) (h4 : (S.2 4).length = 160) (h5 : (S.2 5).length = 160) : Ctr l 54 X sgX1_readText [.ref 8] (encC S ++ T) (rtQ S T t (rtP (lvP (S.2 2) t 5).1 (S.2 2) t 3 0 (lexF (S.2 2) t 0, []) (S.2 6))) := by
  obtain ⟨W, hW⟩ : ∃ W, rtP (lvP (S.2 2) t 5).1 (S.2 2) t 3 0 (lexF (S.2 2) t 0, []) (S.2 6) = W := ⟨_, rfl⟩
  rw [hW]
  have key : ∀ j, j ≤ 3 → ∀ (p : PS) (st : List Int32) (h : AH), st.length ≤ 1000 → InC (cR S 6 st) T t p h → rtP (lvP (S.2 2) t 5).1 (S.2 2) t (3 - j) j p st = W → WP l (rmD 54 0 0) X sgX1_readText kX1_readText (rtQ S T t W) 8 [some (.ref 8), some (.int (nI j))] [] h 0 0 := by
    refine down (fun p st h hst hin e => ?_) (fun j hj ih p st h hst hin e => ?_)
    · have e : (if srt p = 0 then true else false, p, st) = W := e
      subst e
      obtain ⟨hle, r4, r5, hcr, rfl⟩ := id hin
      refine run_sound okX1_readText cNrt 200 (brT (Int32.le_refl _) (br (fun q => ?_) (fun q => ?_)))
      · refine ⟨rfl, hin, some_int ?_⟩
        show (1 : Int32) = bB (if srt p = 0 then true else false)
        rw [if_pos (show srt p = 0 from q)]
        rfl
      · refine ⟨rfl, hin, some_int ?_⟩
        show (0 : Int32) = bB (if srt p = 0 then true else false)
        rw [if_neg (show ¬ srt p = 0 from q)]
        rfl
    · rw [show 3 - j = (3 - (j + 1)) + 1 by omega, rtP] at e
      have hL' := cR6_len (S := S) hL hst
      obtain ⟨hle, r4, r5, hcr, rfl⟩ := id hin
      have c1 := c_readToken (l := l) (X := X) (S := cR S 6 st) hL' ht ht2 (4 + nI j) hin
      by_cases q : srt p = 4 + nI j
      · rw [if_pos q] at e
        rw [show tokP (4 + nI j) ((cR S 6 st).2 2) t p = (true, advP (S.2 2) t p) from if_pos q] at c1
        refine run_sound okX1_readText cNrt 200 (brF (ge_no (n := 3) rfl hj (by decide)) ⟨7, _, by decide, c1, ?_⟩)
        rintro h' w' ⟨hin1, rfl⟩
        obtain ⟨hle1, r41, r51, hcr1, rfl⟩ := id hin1
        have c2 := (lvP_ok (l := l) (X := X) (T := T) (S := cR S 6 st) hL' ht ht2 5 (by decide)).1 _ _ hin1
        have c2 : Ctr l 53 X sgX1_readOr [.ref 8, .int 0] (encC (pS (cR S 6 st) (advP (S.2 2) t p).1 r41 r51 (advP (S.2 2) t p).2.length) ++ T) (GP (cR S 6 st) T t ((lvP (S.2 2) t 5).1 (advP (S.2 2) t p))) := c2
        generalize (lvP (S.2 2) t 5).1 (advP (S.2 2) t p) = r at c2 e
        refine brF (show ¬ bB true = 0 by decide) ⟨53, _, by decide, c2, ?_⟩
        rintro h' w' ⟨hin2, rfl⟩
        obtain ⟨hle2, r42, r52, hcr2, rfl⟩ := id hin2
        refine brBB (fun z => ?_) (fun z => ?_)
        · rw [if_neg (by rw [z]; decide)] at e
          subst e
          exact ⟨rfl, hin2, rfl⟩
        · rw [if_pos z] at e
          refine ⟨1, _, by decide, c_endPart (by omega) (nI j) hin2, ?_⟩
          rintro h' w' ⟨hin3, rfl⟩
          obtain ⟨hle3, r43, r53, hcr3, rfl⟩ := id hin3
          have hst3 : (putF st (nI j + 1) (nI r.2.2.length)).length ≤ 1000 := by rw [putF_len]; exact hst
          have c3 := c_readToken (l := l) (X := X) (S := cR S 6 (putF st (nI j + 1) (nI r.2.2.length))) (cR6_len hL hst3) ht ht2 59 hin3
          by_cases q3 : srt r.2 = 59
          · rw [if_pos q3] at e
            rw [show tokP 59 ((cR S 6 (putF st (nI j + 1) (nI r.2.2.length))).2 2) t r.2 = (true, advP (S.2 2) t r.2) from if_pos q3] at c3
            refine ⟨7, _, by decide, c3, ?_⟩
            rintro h' w' ⟨hin4, rfl⟩
            obtain ⟨hle4, r44, r54, hcr4, rfl⟩ := id hin4
            have ih := ih _ _ _ hst3 hin4 e
            rw [← nI_1 j] at ih
            exact brF (show ¬ bB true = 0 by decide) ih
          · rw [if_neg q3] at e
            rw [show tokP 59 ((cR S 6 (putF st (nI j + 1) (nI r.2.2.length))).2 2) t r.2 = (false, r.2) from if_neg q3] at c3
            refine ⟨7, _, by decide, c3, ?_⟩
            rintro h' w' ⟨hin4, rfl⟩
            obtain ⟨hle4, r44, r54, hcr4, rfl⟩ := id hin4
            subst e
            exact brT rfl ⟨rfl, hin4, rfl⟩
      · rw [if_neg q] at e
        rw [show tokP (4 + nI j) ((cR S 6 st).2 2) t p = (false, p) from if_neg q] at c1
        refine run_sound okX1_readText cNrt 200 (brF (ge_no (n := 3) rfl hj (by decide)) ⟨7, _, by decide, c1, ?_⟩)
        rintro h' w' ⟨hin1, rfl⟩
        obtain ⟨hle1, r41, r51, hcr1, rfl⟩ := id hin1
        subst e
        exact brT rfl ⟨rfl, hin1, rfl⟩
  refine Ctr.of okX1_readText rfl (Nat.le_of_ble_eq_true rfl) (run_sound okX1_readText cNrt 200 ?_)
  refine kH (c_start hL ht ht2) (by decide) (kH c_clear (by decide) ?_)
  exact key 0 (Nat.zero_le _) (lexF (S.2 2) t 0, []) (S.2 6) _ (hL 6) ⟨lexF_le (Nat.zero_le _), S.2 4, S.2 5, ⟨h4, h5, Nat.zero_le _, rfl, rfl⟩, rfl⟩ hW
end TEXTC
end
section
-- 78.textc2
/-! THE CLASS's text, whole -/
section TEXTC2
variable {l : Launch} {X : List (List Int32)} {S : CS} {T : AH} {t : Nat}
/-- the code only grows -/
def Gr (f : GF) : Prop := ∀ p : PS, p.2.length ≤ (f p).2.2.length
theorem addP_gr (s v : Int32) (p : PS) : p.2.length ≤ (addP s v p).2.length := by
  unfold addP
  show p.2.length ≤ (if p.2.length < 160 then p.2 ++ [(s, v)] else p.2).length
  split
  · simp
  · exact Nat.le_refl _
theorem loopP_gr {sub : GF} {tp : List Int32} {ops : Int32 → Bool} (h : Gr sub) : ∀ m, Gr (loopP sub tp t ops m)
  | 0, p => Nat.le_refl _
  | m + 1, p => by
    have h1 : p.2.length ≤ (sub (advP tp t p)).2.2.length := h (advP tp t p)
    rw [loopP]
    split
    · split
      · exact Nat.le_trans (Nat.le_trans h1 (addP_gr _ _ _)) (loopP_gr h m _)
      · exact h1
    · exact Nat.le_refl _
theorem binP_gr {sub : GF} {tp : List Int32} {ops : Int32 → Bool} (h : Gr sub) : Gr (binP sub tp t ops) := by
  intro p
  unfold binP
  split
  · exact Nat.le_trans (h p) (loopP_gr h 160 _)
  · exact h p
theorem cmpP_gr {sub : GF} {tp : List Int32} (h : Gr sub) : Gr (cmpP sub tp t) := by
  intro p
  have h1 : (sub p).2.2.length ≤ (sub (advP tp t (sub p).2)).2.2.length := h (advP tp t (sub p).2)
  unfold cmpP
  split
  · split
    · split
      · exact Nat.le_trans (h p) (Nat.le_trans h1 (addP_gr _ _ _))
      · exact Nat.le_trans (h p) h1
    · exact h p
  · exact h p
theorem notP_gr {cmp : GF} {prev : Option GF} {tp : List Int32} (h : Gr cmp) (hp : ∀ f, prev = some f → Gr f) : Gr (notP cmp prev tp t) := by
  intro p
  unfold notP
  split
  · cases prev with
    | none => exact Nat.le_refl _
    | some f =>
      have h1 : p.2.length ≤ (f (advP tp t p)).2.2.length := hp f rfl (advP tp t p)
      show p.2.length ≤ (if (f (advP tp t p)).1 = true then _ else _ : Bool × PS).2.2.length
      split
      · exact Nat.le_trans h1 (addP_gr _ _ _)
      · exact h1
  · exact h p
theorem bktP_gr {orf : GF} {tp : List Int32} (h : Gr orf) : Gr (bktP orf tp t) := by
  intro p
  unfold bktP
  split
  · split <;> exact h p
  · exact h p
theorem oneP_gr {prev : Option (GF × GF)} {tp : List Int32} (hp : ∀ f, prev = some f → Gr f.1 ∧ Gr f.2) : Gr (oneP prev tp t) := by
  intro p
  unfold oneP
  split
  · exact addP_gr _ _ _
  · split
    · cases prev with
      | none => exact Nat.le_refl _
      | some f =>
        obtain ⟨g1, g2⟩ := hp f rfl
        show p.2.length ≤ (if srt p = 40 then bktP f.1 tp t (advP tp t p) else if (f.2 (advP tp t p)).1 = true then (true, addP 10 0 (f.2 (advP tp t p)).2) else (false, (f.2 (advP tp t p)).2) : Bool × PS).2.2.length
        split
        · exact bktP_gr g1 (advP tp t p)
        · have h1 : p.2.length ≤ (f.2 (advP tp t p)).2.2.length := g2 (advP tp t p)
          split
          · exact Nat.le_trans h1 (addP_gr _ _ _)
          · exact h1
    · exact Nat.le_refl _
theorem mkLv_gr {tp : List Int32} {prev : Option (GF × GF × GF)} (hp : ∀ f, prev = some f → Gr f.1 ∧ Gr f.2.1 ∧ Gr f.2.2) : Gr (mkLv tp t prev).1 ∧ Gr (mkLv tp t prev).2.1 ∧ Gr (mkLv tp t prev).2.2 := by
  have g1 : Gr (oneP (prev.map (fun f => (f.1, f.2.2))) tp t) := oneP_gr (fun f hf => by
    cases prev with
    | none => cases hf
    | some g => cases hf; exact ⟨(hp g rfl).1, (hp g rfl).2.2⟩)
  have g2 : Gr (mkLv tp t prev).2.1 := notP_gr (cmpP_gr (binP_gr (binP_gr g1))) (fun f hf => by
    cases prev with
    | none => cases hf
    | some g => cases hf; exact (hp g rfl).2.1)
  exact ⟨binP_gr (binP_gr g2), g2, g1⟩
theorem lvP_gr (tp : List Int32) : ∀ n, Gr (lvP tp t n).1 ∧ Gr (lvP tp t n).2.1 ∧ Gr (lvP tp t n).2.2
  | 0 => mkLv_gr (fun f hf => by cases hf)
  | n + 1 => mkLv_gr (fun f hf => by cases hf; exact lvP_gr tp n)
/-- a text that is read begins and ends its parts -/
theorem rtP_st {orf : GF} {tp : List Int32} (hg : Gr orf) {p : PS} {st : List Int32} (h4 : st.length = 4) (h0 : st.getD 0 0 = 0) (hr : (rtP orf tp t 3 0 p st).1 = true) : StOk (rtP orf tp t 3 0 p st).2.1.2 (rtP orf tp t 3 0 p st).2.2 := by
  have hadv : ∀ q : PS, (advP tp t q).2 = q.2 := fun _ => rfl
  match st, h4 with
  | [s0, s1, s2, s3], _ =>
    have h0 : s0 = 0 := h0
    subst h0
    rw [rtP] at hr ⊢
    by_cases q1 : srt p = 4 + nI 0
    · rw [if_pos q1] at hr ⊢
      by_cases q2 : (orf (advP tp t p)).1 = true
      · rw [if_pos q2] at hr ⊢
        by_cases q3 : srt (orf (advP tp t p)).2 = 59
        · rw [if_pos q3] at hr ⊢
          generalize orf (advP tp t p) = r1 at hr ⊢
          rw [rtP] at hr ⊢
          by_cases q4 : srt (advP tp t r1.2) = 4 + nI 1
          · rw [if_pos q4] at hr ⊢
            have g1 : r1.2.2.length ≤ (orf (advP tp t (advP tp t r1.2))).2.2.length := hg (advP tp t (advP tp t r1.2))
            by_cases q5 : (orf (advP tp t (advP tp t r1.2))).1 = true
            · rw [if_pos q5] at hr ⊢
              by_cases q6 : srt (orf (advP tp t (advP tp t r1.2))).2 = 59
              · rw [if_pos q6] at hr ⊢
                generalize orf (advP tp t (advP tp t r1.2)) = r2 at hr g1 ⊢
                rw [rtP] at hr ⊢
                by_cases q7 : srt (advP tp t r2.2) = 4 + nI 2
                · rw [if_pos q7] at hr ⊢
                  have g2 : r2.2.2.length ≤ (orf (advP tp t (advP tp t r2.2))).2.2.length := hg (advP tp t (advP tp t r2.2))
                  by_cases q8 : (orf (advP tp t (advP tp t r2.2))).1 = true
                  · rw [if_pos q8] at hr ⊢
                    by_cases q9 : srt (orf (advP tp t (advP tp t r2.2))).2 = 59
                    · rw [if_pos q9]
                      generalize orf (advP tp t (advP tp t r2.2)) = r3 at g2 ⊢
                      exact ⟨rfl, r1.2.2.length, r2.2.2.length, r3.2.2.length, rfl, g1, g2, Nat.le_refl _⟩
                    · rw [if_neg q9] at hr
                      cases hr
                  · rw [if_neg q8] at hr
                    cases hr
                · rw [if_neg q7] at hr
                  cases hr
              · rw [if_neg q6] at hr
                cases hr
            · rw [if_neg q5] at hr
              cases hr
          · rw [if_neg q4] at hr
            cases hr
        · rw [if_neg q3] at hr
          cases hr
      · rw [if_neg q2] at hr
        cases hr
    · rw [if_neg q1] at hr
      cases hr
abbrev RT (S : CS) (t : Nat) : Bool × PS × List Int32 := rtP (lvP (S.2 2) t 5).1 (S.2 2) t 3 0 (lexF (S.2 2) t 0, []) (S.2 6)
/-- after a text that is read: tokens, code, the tape empty -/
def txS (S : CS) (t : Nat) (r4 r5 : List Int32) : CS := cN (pS (cR S 6 (RT S t).2.2) (RT S t).2.1.1 r4 r5 (RT S t).2.1.2.length) 11 0
def okS (S : CS) (t : Nat) (r4 r5 r7 : List Int32) (m : Int32) : CS := cN (cN (cR (addX (txS S t r4 r5) (RT S t).2.1.2 5) 7 r7) 35 m) 93 (S.1 93 + 1)
def TxInv (S : CS) : Prop := (S.2 4).length = 160 ∧ (S.2 5).length = 160 ∧ (S.2 6).length = 4 ∧ (S.2 6).getD 0 0 = 0 ∧ (S.2 7).length = 160
set_option maxRecDepth 100000 in
set_option maxHeartbeats 4000000 in
theorem c_text (hL : CLen S) (hi : TxInv S) {t n : Nat} (ht : S.1 11 = nI t) (ht2 : t ≤ 160) (hn : S.1 93 = nI n) (hn6 : n ≤ 6) : Ctr l 55 X sgX7_text [.ref 0] (encC S ++ T) (fun h w =>
    (n = 6 → h = encC S ++ T ∧ w = some (.int (-4))) ∧
    (n < 6 → ∃ r4 r5, CR r4 r5 (RT S t).2.1.2 ∧
      ((RT S t).1 = false → h = encC (txS S t r4 r5) ++ T ∧ w = some (.int (-100 - nI (RT S t).2.1.1.1))) ∧
      ((RT S t).1 = true → StOk (RT S t).2.1.2 (RT S t).2.2 ∧ ∃ r7 m, r7.length = 160 ∧ h = encC (okS S t r4 r5 r7 m) ++ T ∧ w = some (.int (nI n))))) := by
  obtain ⟨i4, i5, i6, i60, i7⟩ := hi
  refine Ctr.of okX7_text rfl (Nat.le_of_ble_eq_true rfl) (run_sound okX7_text noCut 200 ?_)
  by_cases e6 : n = 6
  · refine brF ?_ ⟨fun _ => ⟨rfl, rfl⟩, fun z => absurd z (by omega)⟩
    show ¬ S.1 93 < 6
    rw [hn, e6]
    decide
  · have hlt : S.1 93 < 6 := by rw [hn]; exact nI_lt (b := 6) (by omega) (by decide)
    refine brT hlt ⟨54, _, by decide, c_readText hL ht ht2 i4 i5, ?_⟩
    have hst := rtP_st (t := t) (tp := S.2 2) (lvP_gr (t := t) (S.2 2) 5).1 (p := (lexF (S.2 2) t 0, [])) i6 i60
    obtain ⟨W, hW⟩ : ∃ W, RT S t = W := ⟨_, rfl⟩
    have hst : W.1 = true → StOk W.2.1.2 W.2.2 := by rw [← hW]; exact hst
    have hW' : rtP (lvP (S.2 2) t 5).1 (S.2 2) t 3 0 (lexF (S.2 2) t 0, []) (S.2 6) = W := hW
    rw [hW']
    unfold txS okS
    unfold txS
    rw [hW]
    rintro h' w' ⟨⟨hle, r4, r5, hcr, rfl⟩, rfl⟩
    refine And.intro trivial (brBB (fun z => ?_) (fun z => ?_))
    · refine ⟨fun y => absurd y e6, fun _ => ⟨r4, r5, hcr, fun _ => ⟨rfl, rfl⟩, fun y => ?_⟩⟩
      rw [z] at y
      cases y
    · have hs := hst z
      have hL6 : CLen (cR S 6 W.2.2) := cR6_len hL (by rw [hs.1]; decide)
      obtain ⟨S2, hS2⟩ : ∃ S2, S2 = cN (pS (cR S 6 W.2.2) W.2.1.1 r4 r5 W.2.1.2.length) 11 0 := ⟨_, rfl⟩
      have hLS2 : CLen S2 := by subst hS2; exact pS_len (n := W.2.1.2.length) (k := W.2.1.1) hL6 hcr.1 hcr.2.1
      have hin : InW S2 T (encC S2 ++ T) := by subst hS2; exact ⟨S.2 7, S.1 35, i7, rfl⟩
      have hc := c_addText (l := l) (X := X) hLS2 (c := W.2.1.2) (by subst hS2; exact hcr) (by subst hS2; exact hs) (by subst hS2; exact hlt) hin
      rw [hS2] at hc
      refine ⟨5, _, by decide, hc, ?_⟩
      rintro h' w' ⟨⟨r7, m, h7, rfl⟩, rfl⟩
      refine ⟨fun y => absurd y e6, fun _ => ⟨r4, r5, hcr, fun y => ?_, fun _ => ⟨hs, r7, m, h7, rfl, some_int ?_⟩⟩⟩
      · rw [z] at y
        cases y
      · show S.1 93 + 1 - Int32.ofInt 1 = nI n
        rw [hn, nI_1]
        exact nI_pred n
end TEXTC2
end
