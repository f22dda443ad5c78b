/-! THE REFERENCE's public methods, over a new one -/
section MFR
variable {l : Launch} {X : List (List Int32)} {S : CS} {M : MS} {hp : AH}
abbrev NOL : Int64 := -4611686018427387904
def cntA (v : Int32) : Int32 := if v = 2 then 1 else if v = 0 ∨ v = 1 ∨ v = 3 ∨ v = 4 then 0 else -2
theorem f_count (h : FM M) (v : Int32) : Ctr l 0 X sgX8_count [.ref 27, .int v] (mk S M) (pA (.int (cntA v))) := by
  have q : Ans l 0 X sgX8_count [.ref 27, .int v] (mk S M) (m_cnt M v) := m_count v
  refine q.weak (fun hp w hw => hw.2.trans (some_int ?_))
  unfold m_cnt cntA
  rw [h.n0, h.n3, h.n9, h.n10, h.n6]
  by_cases h2 : v = 2
  · subst h2; rfl
  · rw [if_neg h2]
    by_cases h0 : v = 0
    · subst h0; rfl
    · by_cases h1 : v = 1
      · subst h1; rfl
      · by_cases h3 : v = 3
        · subst h3; rfl
        · by_cases h4 : v = 4
          · subst h4; rfl
          · rw [if_neg h0, if_neg h1, if_neg h2, if_neg h3, if_neg h4, if_neg (fun z => z.elim h0 (fun z => z.elim h1 (fun z => z.elim h3 h4)))]; rfl
def forA (t : Int32) : Int32 := if zeP t then 0 else -2
theorem f_force (h : FM M) (t : Int32) : Ctr l 1 X sgX8_force [.ref 27, .int t] (mk S M) (pA (.int (forA t))) := by
  have q := m_force (l := l) (X := X) (S := S) (M := M) t
  refine q.weak (fun hp w hw => hw.2.trans (some_int ?_))
  unfold forA frP inP
  rw [h.n9, h.n10]
  rfl
abbrev wdP (w : Int32) : Prop := (0 : Int32) ≤ w ∧ w ≤ 31
abbrev whP (w : Int32) : Prop := (0 : Int32) ≤ w ∧ w ≤ 4
abbrev p2P (w : Int32) : Prop := (0 : Int32) ≤ w ∧ w ≤ 2
abbrev p1P (w : Int32) : Prop := (0 : Int32) ≤ w ∧ w ≤ 1
abbrev p3P (w : Int32) : Prop := (0 : Int32) ≤ w ∧ w ≤ 3
def askA4 (t w who part : Int32) : Int32 := if zeP t ∧ wdP w then (if whP who ∧ p2P part then (if part = 1 then 0 else 1) else -7) else -5
set_option maxRecDepth 100000 in
set_option maxHeartbeats 1000000 in
theorem f_asks (h : FM M) (t w who part : Int32) : Ctr l 3 X sgX8_asks [.ref 27, .int t, .int w, .int who, .int part] (mk S M) (pA (.int (askA4 t w who part))) := by
  refine Ctr.of okX8_asks rfl (Nat.le_of_ble_eq_true rfl) (run_sound okX8_asks noCut 100 ?_)
  refine kH (f_T h t) (by decide) (brB' (fun q => some_int (if_neg (fun z => q z.1)).symm) (fun q => kH (m_isWorld w) (by decide) (brB' (fun q2 => some_int (if_neg (fun z => q2 z.2)).symm) (fun q2 => kH (m_in _ _ _) (by decide) (brB' (fun q3 => some_int ?_) (fun q3 => kH (m_in _ _ _) (by decide) (brB' (fun q4 => some_int ?_) (fun q4 => ?_))))))))
  · exact ((if_pos (show zeP t ∧ wdP w from ⟨q, q2⟩)).trans (if_neg (fun z => q3 z.1))).symm
  · exact ((if_pos (show zeP t ∧ wdP w from ⟨q, q2⟩)).trans (if_neg (fun z => q4 z.2))).symm
  · have e : askA4 t w who part = if part = 1 then 0 else 1 := (if_pos ⟨q, q2⟩).trans (if_pos ⟨q3, q4⟩)
    rw [e]
    have ht := zeP_0 q
    subst ht
    rcases in02 q4 with rfl | rfl | rfl
    · have hc : Ctr l 2 X sgX8_saysOf [.ref 27, .int 0, .int 0, .int w, .int who] (mk S M) (zR S M (saysF M 0 0 w who)) := m_saysOf h.1 (p := 0) (t := 0) (by decide) (by decide) (h.2.1 0 (by decide) 0 (by decide)) w who
      refine brF (by decide) ⟨2, _, by decide, hc, ?_⟩
      rintro hp' v ⟨-, rfl⟩
      exact some_int (h.says0 w who)
    · have hc : Ctr l 2 X sgX8_saysOf [.ref 27, .int 1, .int 0, .int w, .int who] (mk S M) (zR S M (saysF M 1 0 w who)) := m_saysOf h.1 (p := 1) (t := 0) (by decide) (by decide) (h.2.1 0 (by decide) 1 (by decide)) w who
      refine brF (by decide) ⟨2, _, by decide, hc, ?_⟩
      rintro hp' v ⟨-, rfl⟩
      exact some_int (h.says1 w who)
    · have hc : Ctr l 2 X sgX8_saysOf [.ref 27, .int 2, .int 0, .int 0, .int who] (mk S M) (zR S M (saysF M 2 0 0 who)) := m_saysOf h.1 (p := 2) (t := 0) (by decide) (by decide) (h.2.1 0 (by decide) 2 (by decide)) 0 who
      refine brT rfl ⟨2, _, by decide, hc, ?_⟩
      rintro hp' v ⟨-, rfl⟩
      exact some_int (h.says2 0 who)
def meaA (t part : Int32) : Int64 := if zeP t ∧ p1P part then (if part = 0 then ALLW else 0) else NOL
set_option maxRecDepth 100000 in
theorem f_means (h : FM M) (t part : Int32) : Ctr l 4 X sgX8_means [.ref 27, .int t, .int part] (mk S M) (pA (.long (meaA t part))) := by
  refine Ctr.of okX8_means rfl (Nat.le_of_ble_eq_true rfl) (run_sound okX8_means noCut 100 ?_)
  refine kH (f_T h t) (by decide) (brB' (fun q => ⟨rfl, some_long (if_neg (fun z => q z.1)).symm⟩) (fun q => kH (m_in _ _ _) (by decide) (brB' (fun q2 => ⟨rfl, some_long (if_neg (fun z => q2 z.2)).symm⟩) (fun q2 => ?_))))
  have e : meaA t part = if part = 0 then ALLW else 0 := if_pos ⟨q, q2⟩
  rw [e]
  have ht := zeP_0 q
  subst ht
  rcases in01 q2 with rfl | rfl
  · have hc : Ctr l 3 X sgX8_soIn [.ref 27, .int 0, .int 0, .int 0] (mk S M) (zL S M (soF M 0 0 0 32)) := m_soIn h.1 (p := 0) (t := 0) (by decide) (by decide) (h.2.1 0 (by decide) 0 (by decide)) 0
    refine ⟨3, _, by decide, hc, ?_⟩
    rintro hp' v ⟨-, rfl⟩
    exact ⟨rfl, some_long (h.so0 0)⟩
  · have hc : Ctr l 3 X sgX8_soIn [.ref 27, .int 0, .int 1, .int 0] (mk S M) (zL S M (soF M 1 0 0 32)) := m_soIn h.1 (p := 1) (t := 0) (by decide) (by decide) (h.2.1 0 (by decide) 1 (by decide)) 0
    refine ⟨3, _, by decide, hc, ?_⟩
    rintro hp' v ⟨-, rfl⟩
    exact ⟨rfl, some_long (h.so1 0)⟩
def paiA (who : Int32) : Int32 := if whP who then 1 else -2
set_option maxRecDepth 100000 in
theorem f_pairs (h : FM M) (who : Int32) : Ctr l 4 X sgX8_pairs [.ref 27, .int who] (mk S M) (pA (.int (paiA who))) := by
  refine Ctr.of okX8_pairs rfl (Nat.le_of_ble_eq_true rfl) (run_sound okX8_pairs noCut 100 ?_)
  refine kH (m_in _ _ _) (by decide) (brB' (fun q => some_int (if_neg q).symm) (fun q => brF (by rw [h.n9]; decide) ?_))
  have hc : Ctr l 3 X sgX8_soIn [.ref 27, .int 0, .int 0, .int who] (mk S M) (zL S M (soF M 0 0 who 32)) := m_soIn h.1 (p := 0) (t := 0) (by decide) (by decide) (h.2.1 0 (by decide) 0 (by decide)) who
  rw [h.so0] at hc
  refine ⟨3, _, by decide, hc, ?_⟩
  rintro hp' v ⟨⟨z, hz, -, rfl⟩, rfl⟩
  have hs := h.sc hz
  have hc2 : Ctr l 3 X sgX8_soIn [.ref 27, .int 0, .int 1, .int who] (mk S (sc M z)) (zL S (sc M z) (soF (sc M z) 1 0 who 32)) := m_soIn hs.1 (p := 1) (t := 0) (by decide) (by decide) (hs.2.1 0 (by decide) 1 (by decide)) who
  rw [hs.so1] at hc2
  refine ⟨3, _, by decide, hc2, ?_⟩
  rintro hp' v ⟨⟨z2, hz2, -, rfl⟩, rfl⟩
  have h9 : M.1 9 = 1 := h.n9
  exact brT (by decide) (brT (by show M.1 9 ≤ 0 + Int32.ofInt 1; rw [h9]; decide) (some_int (if_pos q).symm))
def spkA (k m : Int32) : Int32 := if ((0 : Int32) ≤ k ∧ k ≤ 5) ∧ ((0 : Int32) ≤ m ∧ m ≤ 9) then 0 else -2
set_option maxRecDepth 100000 in
theorem f_speaker (h : FM M) (k m : Int32) : Ctr l 2 X sgX8_speaker [.ref 27, .int k, .int m] (mk S M) (pA (.int (spkA k m))) := by
  have h0 := h.n0
  obtain ⟨l1, l2, -⟩ := h.1
  refine Ctr.of okX8_speaker rfl (Nat.le_of_ble_eq_true rfl) (run_sound okX8_speaker noCut 100 ?_)
  refine kH (m_isSo k m) (by decide) (brB' (fun q => some_int (if_neg q).symm) (fun q => brF (by rw [h0]; decide) ?_))
  refine Exists.intro _ (And.intro rfl (And.intro ?_ (Exists.intro _ (And.intro rfl (And.intro ?_ (And.intro rfl (And.intro trivial (some_int ?_))))))))
  · show vp_in (M.1 0) (M.2.1 1).length
    rw [h0, l1]; exact vp_nI (n := 0) (by decide) (by decide)
  · show vp_in (M.1 0) (M.2.1 2).length
    rw [h0, l2]; exact vp_nI (n := 0) (by decide) (by decide)
  · show M.1 0 + Int32.ofInt 1 - Int32.ofInt 1 = _
    rw [h0]
    exact (if_pos q).symm
set_option maxRecDepth 100000 in
theorem f_turn (h : FM M) (s k m : Int32) : Ctr l 2 X sgX8_turn [.ref 27, .int s, .int k, .int m] (mk S M) (pA (.int (-5))) := by
  refine Ctr.of okX8_turn rfl (Nat.le_of_ble_eq_true rfl) (run_sound okX8_turn noCut 100 ?_)
  exact kH (f_S h s) (by decide) (brT rfl rfl)
set_option maxRecDepth 100000 in
theorem f_told (h : FM M) (s k : Int32) : Ctr l 2 X sgX8_told [.ref 27, .int s, .int k] (mk S M) (pA (.int (-5))) := by
  refine Ctr.of okX8_told rfl (Nat.le_of_ble_eq_true rfl) (run_sound okX8_told noCut 100 ?_)
  exact kH (f_S h s) (by decide) (brT rfl rfl)
set_option maxRecDepth 100000 in
theorem f_say (h : FM M) (s t u : Int32) : Ctr l 2 X sgX8_say [.ref 27, .int s, .int t, .int u] (mk S M) (pA (.int (-5))) := by
  refine Ctr.of okX8_say rfl (Nat.le_of_ble_eq_true rfl) (run_sound okX8_say noCut 100 ?_)
  exact kH (f_S h s) (by decide) (brT rfl rfl)
theorem f_unsay (h : FM M) : Ctr l 0 X sgX8_unsay [.ref 27] (mk S M) (pA (.int (-3))) := by
  have q := m_unsay (l := l) (X := X) (S := S) (M := M)
  refine q.weak (fun hp w hw => hw.2.trans (some_int ?_))
  rw [h.n3]
  rfl
set_option maxRecDepth 100000 in
theorem f_said (h : FM M) (k what : Int32) : Ctr l 2 X sgX8_said [.ref 27, .int k, .int what] (mk S M) (pA (.int (-5))) := by
  have hc : Ans l 0 X sgX8_in [.int k, .int 0, .int (M.1 3 - Int32.ofInt 1)] (mk S M) 0 := by
    have q : Ans l 0 X sgX8_in [.int k, .int 0, .int (M.1 3 - Int32.ofInt 1)] (mk S M) (bI (0 ≤ k ∧ k ≤ M.1 3 - Int32.ofInt 1)) := m_in _ _ _
    rw [h.n3] at q ⊢
    have e : bI (0 ≤ k ∧ k ≤ 0 - Int32.ofInt 1) = 0 := bI_f no_below
    rw [e] at q
    exact q
  refine Ctr.of okX8_said rfl (Nat.le_of_ble_eq_true rfl) (run_sound okX8_said noCut 100 ?_)
  exact kH hc (by decide) (brT rfl rfl)
set_option maxRecDepth 100000 in
theorem f_worlds (h : FM M) : Ctr l 6 X sgX8_worlds [.ref 27] (mk S M) (pA (.long ALLW)) := by
  refine Ctr.of okX8_worlds rfl (Nat.le_of_ble_eq_true rfl) (run_sound okX8_worlds noCut 100 ?_)
  refine ⟨5, _, by decide, f_worldsNow h, ?_⟩
  rintro hp' w ⟨-, rfl⟩
  exact ⟨rfl, rfl⟩
end MFR
