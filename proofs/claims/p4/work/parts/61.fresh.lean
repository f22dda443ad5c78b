/-! A NEW REFERENCE: what is known of it -/
section FRESH
variable {l : Launch} {X : List (List Int32)} {S : CS} {M : MS} {hp : AH}
def FM (M : MS) : Prop := MLen M ∧ AllOk M 1 ∧ SegF M ∧ (M.1 0 = 0 ∧ M.1 3 = 0 ∧ M.1 9 = 1 ∧ M.1 10 = 0 ∧ M.1 6 = 0 ∧ M.1 11 = 0) ∧ M.2.1 17 = [-1, -1, -1, -1]
theorem NewM.fm (h : NewM M) : FM M := by
  obtain ⟨h1, h2, h3, a, b, tk, v, cd, hd, hm, op, ou, st, rfl⟩ := h
  exact ⟨h1, h2, h3, ⟨rfl, rfl, rfl, rfl, rfl, rfl⟩, rfl⟩
theorem FM.sc {z : SZ} (h : FM M) (hz : ScOk z) : FM (sc M z) := ⟨h.1.sc hz, h.2.1, h.2.2.1, h.2.2.2.1, h.2.2.2.2⟩
theorem FM.n0 (h : FM M) : M.1 0 = 0 := h.2.2.2.1.1
theorem FM.n3 (h : FM M) : M.1 3 = 0 := h.2.2.2.1.2.1
theorem FM.n9 (h : FM M) : M.1 9 = 1 := h.2.2.2.1.2.2.1
theorem FM.n10 (h : FM M) : M.1 10 = 0 := h.2.2.2.1.2.2.2.1
theorem FM.n6 (h : FM M) : M.1 6 = 0 := h.2.2.2.1.2.2.2.2.1
theorem FM.n11 (h : FM M) : M.1 11 = 0 := h.2.2.2.1.2.2.2.2.2
theorem FM.says0 (h : FM M) (w who : Int32) : saysF M 0 0 w who = 1 := by
  unfold saysF
  rw [if_neg (by decide), h.2.2.1.1]
  rfl
theorem FM.says1 (h : FM M) (w who : Int32) : saysF M 1 0 w who = 0 := by
  unfold saysF
  rw [if_neg (by decide), h.2.2.1.2.1]
  rfl
theorem FM.says2 (h : FM M) (w who : Int32) : saysF M 2 0 w who = 1 := by
  unfold saysF
  rw [if_pos rfl, h.2.2.1.2.2]
  rfl
def allB : Nat → Int64
  | 0 => 0
  | w + 1 => allB w ||| ((1 : Int64) <<< ((nI w).toInt64 &&& 63))
theorem soF_all {p t : Nat} {who : Int32} (h : ∀ w, saysF M p t w who = 1) : ∀ n, soF M p t who n = allB n
  | 0 => rfl
  | n + 1 => by rw [soF, allB, soF_all h n, if_pos (h _)]
theorem soF_none {p t : Nat} {who : Int32} (h : ∀ w, saysF M p t w who = 0) : ∀ n, soF M p t who n = 0
  | 0 => rfl
  | n + 1 => by rw [soF, soF_none h n, if_neg (by rw [h]; decide)]; rfl
abbrev ALLW : Int64 := 4294967295
theorem FM.so0 (h : FM M) (who : Int32) : soF M 0 0 who 32 = ALLW := (soF_all (fun w => h.says0 w who) 32).trans (by decide +kernel)
theorem FM.so1 (h : FM M) (who : Int32) : soF M 1 0 who 32 = 0 := soF_none (fun w => h.says1 w who) 32
theorem FM.mt0 (h : FM M) : mtF M 0 = ALLW := h.so0 _
/-- an answer, whatever the world -/
abbrev pA (v : Value) : AH → Option Value → Prop := fun _ w => w = some v
/-- an answer, the rows that a query may write as they come, the first row of meanings there -/
abbrev fQ (S : CS) (M : MS) (v : Option Value) : AH → Option Value → Prop := fun h w => (∃ z, ScOk z ∧ z.2.2.1.getD 0 0 = ALLW ∧ h = mk S (sc M z)) ∧ w = v
theorem FM.once (h : FM M) (hm : M.2.2.1.getD 0 0 = ALLW) {t : Int32} (ht : t = 0) : AnsL l 0 X sgX8_once [.ref 27, .int t] (mk S M) ALLW := by
  subst ht
  have q : AnsL l 0 X sgX8_once [.ref 27, .int (nI 0)] (mk S M) (M.2.2.1.getD (10 * 0) 0) := m_once h.1.z.2.2.1 (t := 0) (by decide)
  rw [show M.2.2.1.getD (10 * 0) 0 = ALLW from hm] at q
  exact q
abbrev zeP (t : Int32) : Prop := (0 : Int32) ≤ t ∧ t ≤ (0 : Int32)
theorem zeP_0 {t : Int32} (h : zeP t) : t = 0 := Int32.le_antisymm h.2 h.1
theorem f_T (h : FM M) (t : Int32) : Ans l 1 X sgX8_isOfTexts [.ref 27, .int t] (mk S M) (bI (zeP t)) := by
  have q : Ans l 1 X sgX8_isOfTexts [.ref 27, .int t] (mk S M) (bI (0 ≤ t ∧ t ≤ M.1 9 - 1)) := m_isOfTexts t
  rw [h.n9] at q
  exact q
theorem no_below {t : Int32} (z : 0 ≤ t ∧ t ≤ (0 : Int32) - 1) : False := by
  have h1 := Int32.le_iff_toInt_le.mp z.1
  have h2 := Int32.le_iff_toInt_le.mp z.2
  have e0 : (0 : Int32).toInt = 0 := by decide
  have e1 : ((0 : Int32) - 1).toInt = -1 := by decide
  omega
theorem f_S (h : FM M) (s : Int32) : Ans l 1 X sgX8_isSpeaker [.ref 27, .int s] (mk S M) 0 := by
  have q : Ans l 1 X sgX8_isSpeaker [.ref 27, .int s] (mk S M) (bI (0 ≤ s ∧ s ≤ M.1 0 - 1)) := m_isSpeaker s
  rw [h.n0, bI_f no_below] at q
  exact q
theorem in01 {v : Int32} (h : (0 : Int32) ≤ v ∧ v ≤ 1) : v = 0 ∨ v = 1 := by
  have h1 := Int32.le_iff_toInt_le.mp h.1
  have h2 := Int32.le_iff_toInt_le.mp h.2
  have e0 : (0 : Int32).toInt = 0 := by decide
  have e1 : (1 : Int32).toInt = 1 := by decide
  rcases (show v.toInt = 0 ∨ v.toInt = 1 by omega) with e | e
  · exact Or.inl (Int32.toInt_inj.mp (e.trans e0.symm))
  · exact Or.inr (Int32.toInt_inj.mp (e.trans e1.symm))
theorem in02 {v : Int32} (h : (0 : Int32) ≤ v ∧ v ≤ 2) : v = 0 ∨ v = 1 ∨ v = 2 := by
  have h1 := Int32.le_iff_toInt_le.mp h.1
  have h2 := Int32.le_iff_toInt_le.mp h.2
  have e0 : (0 : Int32).toInt = 0 := by decide
  have e1 : (1 : Int32).toInt = 1 := by decide
  have e2 : (2 : Int32).toInt = 2 := by decide
  rcases (show v.toInt = 0 ∨ v.toInt = 1 ∨ v.toInt = 2 by omega) with e | e | e
  · exact Or.inl (Int32.toInt_inj.mp (e.trans e0.symm))
  · exact Or.inr (Or.inl (Int32.toInt_inj.mp (e.trans e1.symm)))
  · exact Or.inr (Or.inr (Int32.toInt_inj.mp (e.trans e2.symm)))
set_option maxRecDepth 100000 in
theorem f_worldsOf (h : FM M) (hm : M.2.2.1.getD 0 0 = ALLW) {n : Int32} (hn : n = 0) : AnsL l 1 X sgX8_worldsOf [.ref 27, .int n] (mk S M) ALLW := by
  subst hn
  refine Ctr.of okX8_worldsOf rfl (Nat.le_of_ble_eq_true rfl) (run_sound okX8_worldsOf noCut 100 ?_)
  exact kH (h.once hm h.n10) (by decide) (brT (Int32.le_refl _) ⟨rfl, rfl, rfl⟩)
set_option maxRecDepth 100000 in
theorem f_reads (h : FM M) : Ctr l 4 X sgX8_reads [.ref 27] (mk S M) (fQ S M none) := by
  have q : Ctr l 4 X sgX8_reads [.ref 27] (mk S M) (zV S M 1) := m_reads h.1 (nt := 1) h.n9 (by decide) h.2.1
  refine q.weak ?_
  rintro hp w ⟨⟨z, ⟨hz, -, hk⟩, rfl⟩, rfl⟩
  exact ⟨⟨z, hz, (hk 0 (by decide)).trans h.mt0, rfl⟩, rfl⟩
set_option maxRecDepth 100000 in
theorem f_worldsNow (h : FM M) : Ctr l 5 X sgX8_worldsNow [.ref 27] (mk S M) (fQ S M (some (.long ALLW))) := by
  refine Ctr.of okX8_worldsNow rfl (Nat.le_of_ble_eq_true rfl) (run_sound okX8_worldsNow noCut 100 ?_)
  refine ⟨4, _, by decide, f_reads h, ?_⟩
  rintro hp' w ⟨⟨z, hz, hzm, rfl⟩, rfl⟩
  exact kH (f_worldsOf (h.sc hz) hzm h.n3) (by decide) ⟨rfl, ⟨z, hz, hzm, rfl⟩, rfl⟩
end FRESH
