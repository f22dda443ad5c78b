/-! THE REFERENCE in general: texts that settle all, how many are so -/
section MSET
variable {l : Launch} {X : List (List Int32)} {S : CS} {M : MS} {hp : AH} {nt ns nk : Nat}
/-- whether two worlds need not be parted, or a text of some parts them -/
abbrev apP (left : Int64) (k : Nat) : Prop := k % 32 ≤ k / 32 ∨ ¬ hsP left (nI (k / 32)) ∨ ¬ hsP left (nI (k % 32))
abbrev apT (M : MS) (a : Int32) (k t : Nat) : Prop := a >>> (nI t &&& 31) &&& 1 = 1 ∧ ¬ bI (hsP (mtF M (10 * t)) (nI (k / 32))) = bI (hsP (mtF M (10 * t)) (nI (k % 32)))
def apF (M : MS) (left : Int64) (a : Int32) (k : Nat) : Nat → Bool
  | 0 => if apP left k then true else false
  | t + 1 => if apF M left a k t = true then true else if apT M a k t then true else false
theorem apF_more (left : Int64) (a : Int32) (k : Nat) {t : Nat} (h : apF M left a k t = true) : ∀ n, t ≤ n → apF M left a k n = true := by
  intro n hn
  induction n with
  | zero =>
    have : t = 0 := by omega
    rw [← this]; exact h
  | succ n ih =>
    by_cases e : t = n + 1
    · rw [← e]; exact h
    · rw [apF, if_pos (ih (by omega))]
def seF (M : MS) (nt : Nat) (left : Int64) (a : Int32) : Nat → Nat → Bool
  | 0, _ => true
  | m + 1, k => if apF M left a k nt = true then seF M nt left a m (k + 1) else false
def cNse (i : Nat) : Bool := Nat.beq i 2 || Nat.beq i 27 || Nat.beq i 30 || Nat.beq i 57 || Nat.beq i 60
set_option maxRecDepth 100000 in
set_option maxHeartbeats 4000000 in
theorem g_settles (h : MInv M nt ns nk) {z : SZ} (hz : ScOk z) (hzm : Mt (sc M z) nt) (left : Int64) (a : Int32) : Ans l 1 X sgX8_settles [.ref 27, .long left, .int a] (mk S (sc M z)) (bB (seF M nt left a 1024 0)) := by
  obtain ⟨h9, h1, h6⟩ := h.2.2.1
  refine Ctr.of okX8_settles rfl (Nat.le_of_ble_eq_true rfl) (run_sound okX8_settles cNse 300 ?_)
  obtain ⟨V, hV⟩ : ∃ V, seF M nt left a 1024 0 = V := ⟨_, rfl⟩
  rw [hV]
  have key : ∀ k, k ≤ 1024 → seF M nt left a (1024 - k) k = V → ∀ x5 x6 x7 x8, WP l (rmD 1 0 0) X sgX8_settles kX8_settles (fun h w => h = mk S (sc M z) ∧ w = some (.int (bB V))) 2 [some (.ref 27), some (.long left), none, some (.int a), some (.int (nI k)), x5, x6, x7, x8] [] (mk S (sc M z)) 0 0 := by
    refine down (fun e x5 x6 x7 x8 => ?_) (fun k hk ih e x5 x6 x7 x8 => ?_)
    · rw [Nat.sub_self] at e
      have e : true = V := e
      subst e
      exact run_sound okX8_settles cNse 300 (brT (Int32.le_refl _) ⟨rfl, rfl, rfl⟩)
    · rw [show 1024 - k = (1024 - (k + 1)) + 1 by omega, seF] at e
      have e1 : nI k / Int32.ofInt 32 = nI (k / 32) := nI_div (b := 32) (by omega) (by decide) (by decide)
      have e2 : nI k - nI k / Int32.ofInt 32 * Int32.ofInt 32 = nI (k % 32) := nI_rem (b := 32) (by omega) (by decide) (by decide)
      obtain ⟨v, hv⟩ : ∃ v, nI k / Int32.ofInt 32 = v := ⟨_, rfl⟩
      obtain ⟨w, hw⟩ : ∃ w, nI k - nI k / Int32.ofInt 32 * Int32.ofInt 32 = w := ⟨_, rfl⟩
      have ev : v = nI (k / 32) := hv.symm.trans e1
      have ew : w = nI (k % 32) := hw.symm.trans e2
      have t60 : ∀ b : Bool, b = apF M left a k nt → ∀ x8, WP l (rmD 1 0 0) X sgX8_settles kX8_settles (fun h w => h = mk S (sc M z) ∧ w = some (.int (bB V))) 60 [some (.ref 27), some (.long left), none, some (.int a), some (.int (nI k)), some (.int v), some (.int w), some (.int (bB b)), x8] [] (mk S (sc M z)) 0 0 := by
        intro b hb x8
        rw [← hb] at e
        refine run_sound okX8_settles (fun i => Nat.beq i 2) 300 (brBB (fun p => ?_) (fun p => ?_))
        · rw [if_neg (by rw [p]; decide)] at e
          subst e
          exact ⟨rfl, rfl, rfl⟩
        · rw [if_pos p] at e
          have ih := ih e (some (.int v)) (some (.int w)) (some (.int (bB b))) x8
          rw [← nI_1 k] at ih
          exact ih
      have inner : ∀ t, t ≤ nt → WP l (rmD 1 0 0) X sgX8_settles kX8_settles (fun h w => h = mk S (sc M z) ∧ w = some (.int (bB V))) 30 [some (.ref 27), some (.long left), none, some (.int a), some (.int (nI k)), some (.int v), some (.int w), some (.int (bB (apF M left a k t))), some (.int (nI t))] [] (mk S (sc M z)) 0 0 := by
        refine down ?_ (fun t ht iht => ?_)
        · refine run_sound okX8_settles cNse 300 (brT ?_ (t60 _ rfl _))
          show M.1 9 ≤ nI nt
          rw [h9]; exact Int32.le_refl _
        · have t57 : ∀ x : Int32, x = bB (apF M left a k (t + 1)) → WP l (rmD 1 0 0) X sgX8_settles kX8_settles (fun h w => h = mk S (sc M z) ∧ w = some (.int (bB V))) 57 [some (.ref 27), some (.long left), none, some (.int a), some (.int (nI k)), some (.int v), some (.int w), some (.int (bB (apF M left a k t))), some (.int (nI t))] [.int x] (mk S (sc M z)) 0 0 := by
            intro x hx
            rw [← hx, ← nI_1 t] at iht
            exact run_sound okX8_settles (fun i => Nat.beq i 30) 300 iht
          have co := g_onceZ (l := l) (X := X) (S := S) h hz hzm ht
          have hv1 : Ans l 0 X sgX8_has [.long (mtF M (10 * t)), .int v] (mk S (sc M z)) (bI (hsP (mtF M (10 * t)) (nI (k / 32)))) := by rw [ev]; exact m_has _ _
          have hw1 : Ans l 0 X sgX8_has [.long (mtF M (10 * t)), .int w] (mk S (sc M z)) (bI (hsP (mtF M (10 * t)) (nI (k % 32)))) := by rw [ew]; exact m_has _ _
          refine run_sound okX8_settles cNse 300 (brF ?_ (brBB (fun p => ?_) (fun p => t60 _ ?_ _)))
          · show ¬ M.1 9 ≤ nI t
            rw [h9]; exact nI_ge ht (by omega)
          · have en : ¬ apF M left a k t = true := by rw [p]; decide
            have ey : apT M a k t → (1 : Int32) = bB (apF M left a k (t + 1)) := fun y => by rw [apF, if_neg en, if_pos y]; rfl
            have e0 : ¬ apT M a k t → (0 : Int32) = bB (apF M left a k (t + 1)) := fun y => by rw [apF, if_neg en, if_neg y]; rfl
            exact br (fun p1 => kH co (by decide) (kH hv1 (by decide) (kH co (by decide) (kH hw1 (by decide) (br (fun p2 => t57 _ (e0 (fun y => y.2 p2))) (fun p2 => t57 _ (ey ⟨p1, p2⟩))))))) (fun p1 => t57 _ (e0 (fun y => p1 y.1)))
          · rw [p]
            exact (apF_more left a k p nt (by omega)).symm
      have t27 : ∀ x : Int32, x = bB (apF M left a k 0) → WP l (rmD 1 0 0) X sgX8_settles kX8_settles (fun h w => h = mk S (sc M z) ∧ w = some (.int (bB V))) 27 [some (.ref 27), some (.long left), none, some (.int a), some (.int (nI k)), some (.int v), some (.int w), x7, x8] [.int x] (mk S (sc M z)) 0 0 := by
        intro x hx
        subst hx
        exact run_sound okX8_settles (fun i => Nat.beq i 30) 300 (inner 0 (Nat.zero_le _))
      have ey : apP left k → (1 : Int32) = bB (apF M left a k 0) := fun y => by rw [apF, if_pos y]; rfl
      have e0 : ¬ apP left k → (0 : Int32) = bB (apF M left a k 0) := fun y => by rw [apF, if_neg y]; rfl
      have hlv : Ans l 0 X sgX8_has [.long left, .int v] (mk S (sc M z)) (bI (hsP left (nI (k / 32)))) := by rw [ev]; exact m_has _ _
      have hlw : Ans l 0 X sgX8_has [.long left, .int w] (mk S (sc M z)) (bI (hsP left (nI (k % 32)))) := by rw [ew]; exact m_has _ _
      have hvw : w ≤ v ↔ k % 32 ≤ k / 32 := by rw [ev, ew]; exact nI_leI (by omega) (by omega)
      subst hv
      subst hw
      refine run_sound okX8_settles cNse 300 (brF (nI_ge (b := 1024) hk (by decide)) (And.intro (by decide) (And.intro (by decide) (br (fun p => t27 _ (ey (Or.inl (hvw.mp p)))) (fun p => kH hlv (by decide) (brB' (fun p2 => t27 _ (ey (Or.inr (Or.inl p2)))) (fun p2 => kH hlw (by decide) (brB' (fun p3 => t27 _ (ey (Or.inr (Or.inr p3)))) (fun p3 => t27 _ (e0 (fun y => y.elim (fun y => p (hvw.mpr y)) (fun y => y.elim (fun y => y p2) (fun y => y p3)))))))))))))
  exact key 0 (Nat.zero_le _) hV none none none none
def stG (M : MS) (nt nk : Nat) (what : Int32) : Int32 := if p1P what then beO (fun a => seF M nt (woT M nk) a 1024 0) (2 ^ nt) what else -2
def cNst (i : Nat) : Bool := Nat.beq i 14 || Nat.beq i 33
set_option maxRecDepth 100000 in
set_option maxHeartbeats 1000000 in
theorem g_settle (h : MInv M nt ns nk) (what : Int32) : Ctr l 6 X sgX8_settle [.ref 27, .int what] (mk S M) (zA S M (.int (stG M nt nk what))) := by
  obtain ⟨h9, h1, h6⟩ := h.2.2.1
  have h12 : nt ≤ 12 := by omega
  refine Ctr.of okX8_settle rfl (Nat.le_of_ble_eq_true rfl) (run_sound okX8_settle cNst 200 ?_)
  refine kH (m_in _ _ _) (by decide) (brB' (fun q => zI h.1 (if_neg q).symm) (fun q => ⟨5, _, by decide, g_worldsNow h, ?_⟩))
  rw [show stG M nt nk what = beO (fun a => seF M nt (woT M nk) a 1024 0) (2 ^ nt) what from if_pos q]
  rintro hp' w ⟨⟨z, hz, hzm, rfl⟩, rfl⟩
  obtain ⟨P, hP⟩ : ∃ P : Int32 → Bool, P = fun a => seF M nt (woT M nk) a 1024 0 := ⟨_, rfl⟩
  have hw : ∀ a, Ans l 1 X sgX8_settles [.ref 27, .long (woT M nk), .int a] (mk S (sc M z)) (bB (P a)) := fun a => by
    rw [hP]
    exact g_settles h hz hzm (woT M nk) a
  rw [← hP]
  have hsh : (1 : Int32) <<< (M.1 9 &&& 31) = nI (2 ^ nt) := by rw [h9, shl_nk h12]
  have hpw := pw_nk h12
  generalize 2 ^ nt = N at hsh hpw ⊢
  have key : ∀ j, j ≤ N → ∀ x6, WP l (rmD 6 0 0) X sgX8_settle kX8_settle (zA S M (.int (beO P N what))) 14 [some (.ref 27), some (.int what), some (.long (woT M nk)), none, some (.int (beB P j)), some (.int (nI j)), x6] [] (mk S (sc M z)) 0 0 := by
    refine down (fun x6 => ?_) (fun j hj ih x6 => ?_)
    · refine run_sound okX8_settle cNst 200 (brT ?_ (br (fun p => ⟨⟨z, hz, rfl⟩, some_int (if_pos (Or.inl p)).symm⟩) (fun p => br (fun p2 => ⟨⟨z, hz, rfl⟩, some_int (if_pos (Or.inr p2)).symm⟩) (fun p2 => kH (m_bitsOf _) (by decide) ⟨⟨z, hz, rfl⟩, some_int (if_neg (fun y => y.elim p p2)).symm⟩))))
      show (1 : Int32) <<< (M.1 9 &&& 31) ≤ nI N
      rw [hsh]; exact Int32.le_refl _
    · have t33 : ∀ v : Int32, (v = 1 ∧ (beB P j = -1 ∨ cntF (nI j).toInt64 32 < cntF (beB P j).toInt64 32)) ∨ (v = 0 ∧ ¬ (beB P j = -1 ∨ cntF (nI j).toInt64 32 < cntF (beB P j).toInt64 32)) → WP l (rmD 6 0 0) X sgX8_settle kX8_settle (zA S M (.int (beO P N what))) 33 [some (.ref 27), some (.int what), some (.long (woT M nk)), none, some (.int (beB P j)), some (.int (nI j)), x6] [.int v] (mk S (sc M z)) 0 0 := by
        intro v hv
        rcases hv with ⟨rfl, hf⟩ | ⟨rfl, hf⟩
        · refine run_sound okX8_settle (fun i => Nat.beq i 14) 200 (brF (by decide) (kH (hw _) (by decide) (brBB (fun p => ?_) (fun p => ?_))))
          · have ih := ih (some (.int 1))
            rw [show beB P (j + 1) = beB P j by rw [beB, if_neg (fun y => by rw [p] at y; cases y.2)], ← nI_1 j] at ih
            exact ih
          · have ih := ih (some (.int 1))
            rw [show beB P (j + 1) = nI j by rw [beB, if_pos ⟨hf, p⟩], ← nI_1 j] at ih
            exact ih
        · have ih := ih (some (.int 0))
          rw [show beB P (j + 1) = beB P j by rw [beB, if_neg (fun y => hf y.1)], ← nI_1 j] at ih
          exact run_sound okX8_settle (fun i => Nat.beq i 14) 200 (brT rfl ih)
      refine run_sound okX8_settle cNst 200 (brF ?_ (br (fun p => t33 1 (Or.inl ⟨rfl, Or.inl p⟩)) (fun p => kH (m_bitsOf _) (by decide) (kH (m_bitsOf _) (by decide) (br (fun p2 => t33 0 (Or.inr ⟨rfl, fun y => y.elim p (fun y => absurd y (Int32.not_lt.mpr p2))⟩)) (fun p2 => t33 1 (Or.inl ⟨rfl, Or.inr (Int32.not_le.mp p2)⟩)))))))
      show ¬ (1 : Int32) <<< (M.1 9 &&& 31) ≤ nI j
      rw [hsh]; exact nI_ge hj hpw
  exact key 0 (Nat.zero_le _) none
def mnG (M : MS) (nk : Nat) (what : Int32) : Int32 := if (0 : Int32) ≤ what ∧ what ≤ 7 then manF what (woT M nk) else -2
set_option maxRecDepth 100000 in
set_option maxHeartbeats 1000000 in
theorem g_many (h : MInv M nt ns nk) (what : Int32) : Ctr l 6 X sgX8_many [.ref 27, .int what] (mk S M) (zA S M (.int (mnG M nk what))) := by
  refine Ctr.of okX8_many rfl (Nat.le_of_ble_eq_true rfl) (run_sound okX8_many cNm 200 ?_)
  refine kH (m_in _ _ _) (by decide) (brB' (fun q => zI h.1 (if_neg q).symm) (fun q => ⟨5, _, by decide, g_worldsNow h, ?_⟩))
  rintro hp' w ⟨⟨z, hz, hzm, rfl⟩, rfl⟩
  rw [show mnG M nk what = manF what (woT M nk) from if_pos q]
  generalize woT M nk = A
  obtain ⟨V, hV⟩ : ∃ V, manF what A = V := ⟨_, rfl⟩
  rw [hV]
  have key : ∀ j, j ≤ 32 → ∀ x8, WP l (rmD 6 0 0) X sgX8_many kX8_many (zA S M (.int V)) 18 [some (.ref 27), some (.int what), some (.long A), none, some (.int (maF what A j).1), some (.int (maF what A j).2.1), some (.int (maF what A j).2.2), some (.int (nI j)), x8] [] (mk S (sc M z)) 0 0 := by
    refine down (fun x8 => ?_) (fun j hj ih x8 => ?_)
    · rw [← hV]
      refine run_sound okX8_many cNm 200 (brT (Int32.le_refl _) (br (fun p => ⟨⟨z, hz, rfl⟩, some_int ?_⟩) (fun p => br (fun p0 => ⟨⟨z, hz, rfl⟩, some_int ?_⟩) (fun p0 => br (fun p1 => ⟨⟨z, hz, rfl⟩, some_int ?_⟩) (fun p1 => ⟨⟨z, hz, rfl⟩, some_int ?_⟩)))))
      · exact (if_pos p).symm
      · exact ((if_neg p).trans (if_pos p0)).symm
      · exact ((if_neg p).trans ((if_neg p0).trans (if_pos p1))).symm
      · exact ((if_neg p).trans ((if_neg p0).trans (if_neg p1))).symm
    · refine run_sound okX8_many cNm 200 (brF (ge_no (n := 32) rfl hj (by decide)) (kH (m_has _ _) (by decide) (brB' (fun hs => ?_) (fun hs => kH (m_bitsOf _) (by decide) ?_))))
      · have ih := ih x8
        rw [maF, if_neg hs, ← nI_1 j] at ih
        exact ih
      · obtain ⟨c, hc⟩ : ∃ c, c = cntF (nI j).toInt64 32 := ⟨_, rfl⟩
        rw [maF, if_pos hs, ← hc, ← nI_1 j] at ih
        rw [← hc]
        have t46 : ∀ v4 v5, v4 = (if (maF what A j).1 = -1 then c else if (maF what A j).1 ≤ c then (maF what A j).1 else c) → v5 = (if c ≤ (maF what A j).2.1 then (maF what A j).2.1 else c) →
            WP l (rmD 6 0 0) X sgX8_many kX8_many (zA S M (.int V)) 46 [some (.ref 27), some (.int what), some (.long A), none, some (.int v4), some (.int v5), some (.int (maF what A j).2.2), some (.int (nI j)), some (.int c)] [] (mk S (sc M z)) 0 0 := by
          intro v4 v5 h4 h5
          have ih := ih (some (.int c))
          rw [← h4, ← h5] at ih
          refine run_sound okX8_many cNm 200 (br (fun p => ?_) (fun p => ?_))
          · rw [show (if c = what - 2 then (1 : Int32) else 0) = 1 from if_pos p] at ih
            exact ih
          · rw [show (if c = what - 2 then (1 : Int32) else 0) = 0 from if_neg p] at ih
            exact ih
        have t39 : ∀ v4, v4 = (if (maF what A j).1 = -1 then c else if (maF what A j).1 ≤ c then (maF what A j).1 else c) →
            WP l (rmD 6 0 0) X sgX8_many kX8_many (zA S M (.int V)) 39 [some (.ref 27), some (.int what), some (.long A), none, some (.int v4), some (.int (maF what A j).2.1), some (.int (maF what A j).2.2), some (.int (nI j)), some (.int c)] [] (mk S (sc M z)) 0 0 := by
          intro v4 h4
          exact run_sound okX8_many cNm 200 (br (fun p => t46 _ _ h4 (if_pos p).symm) (fun p => t46 _ _ h4 (if_neg p).symm))
        exact br (fun p => t39 _ (if_pos p).symm) (fun p => br (fun p2 => t39 _ ((if_neg p).trans (if_pos p2)).symm) (fun p2 => t39 _ ((if_neg p).trans (if_neg p2)).symm))
  exact key 0 (Nat.zero_le _) none
end MSET
