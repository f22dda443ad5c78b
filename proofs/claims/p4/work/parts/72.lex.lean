/-! THE CLASS's tokens -/
section LEX
variable {l : Launch} {X : List (List Int32)} {S : CS} {T : AH} {hp : AH}
theorem atF_nI (xs : List Int32) {n : Nat} (h : n < 2 ^ 31) : atF xs (nI n) = xs.getD n 0 := by
  unfold atF
  rw [if_pos (nI_pos' h), nI_clamp h]
set_option maxRecDepth 100000 in
theorem c_isBlank (c : Int32) : Ans l 0 X sgX6_isBlank [.int c] hp (bI (c = 32 ∨ c = 10)) := by
  refine Ctr.of okX6_isBlank rfl (Nat.le_of_ble_eq_true rfl) (run_sound okX6_isBlank noCut 100 ?_)
  exact br (fun h => ⟨rfl, rfl, some_int (bIe1 (Or.inl h))⟩) (fun h => br (fun h2 => ⟨rfl, rfl, some_int (bIe1 (Or.inr h2))⟩) (fun h2 => ⟨rfl, rfl, some_int (bIe0 (fun z => z.elim h h2))⟩))
set_option maxRecDepth 100000 in
theorem c_isLetter (c : Int32) : Ans l 0 X sgX6_isLetter [.int c] hp (bI (isLet c)) := by
  refine Ctr.of okX6_isLetter rfl (Nat.le_of_ble_eq_true rfl) (run_sound okX6_isLetter noCut 100 ?_)
  exact br (fun h => ⟨rfl, rfl, some_int (bIe0 (fun z => absurd h (Int32.not_lt.mpr z.1)))⟩) (fun h => br (fun h2 => ⟨rfl, rfl, some_int (bIe0 (fun z => absurd h2 (Int32.not_lt.mpr z.2)))⟩) (fun h2 => ⟨rfl, rfl, some_int (bIe1 ⟨Int32.not_lt.mp h, Int32.not_lt.mp h2⟩)⟩))
set_option maxRecDepth 100000 in
theorem c_isDigit (c : Int32) : Ans l 0 X sgX6_isDigit [.int c] hp (bI (isDig c)) := by
  refine Ctr.of okX6_isDigit rfl (Nat.le_of_ble_eq_true rfl) (run_sound okX6_isDigit noCut 100 ?_)
  exact br (fun h => ⟨rfl, rfl, some_int (bIe0 (fun z => absurd h (Int32.not_lt.mpr z.1)))⟩) (fun h => br (fun h2 => ⟨rfl, rfl, some_int (bIe0 (fun z => absurd h2 (Int32.not_lt.mpr z.2)))⟩) (fun h2 => ⟨rfl, rfl, some_int (bIe1 ⟨Int32.not_lt.mp h, Int32.not_lt.mp h2⟩)⟩))
def sgC (c : Int32) : Bool := c == 40 || c == 41 || c == 42 || c == 43 || c == 45 || c == 59 || c == 60 || c == 61
set_option maxRecDepth 100000 in
theorem c_isSign (c : Int32) : Ans l 0 X sgX6_isSign [.int c] hp (bB (sgC c)) := by
  refine Ctr.of okX6_isSign rfl (Nat.le_of_ble_eq_true rfl) (run_sound okX6_isSign noCut 100 ?_)
  refine And.intro (fun h => ⟨rfl, rfl, some_int ?_⟩) ?_
  · have no : ∀ k : Int32, 40 ≤ k.toInt → k.toInt ≤ 61 → ¬ c = k := fun k h1 h2 z => by subst z; omega
    have e : sgC c = false := by
      unfold sgC
      simp only [Bool.or_eq_false_iff, beq_eq_false_iff_ne]
      exact ⟨⟨⟨⟨⟨⟨⟨no _ (by decide) (by decide), no _ (by decide) (by decide)⟩, no _ (by decide) (by decide)⟩, no _ (by decide) (by decide)⟩, no _ (by decide) (by decide)⟩, no _ (by decide) (by decide)⟩, no _ (by decide) (by decide)⟩, no _ (by decide) (by decide)⟩
    rw [e]
    rfl
  refine And.intro (fun h => by subst h; exact ⟨rfl, rfl, rfl⟩) ?_
  refine And.intro (fun h => by subst h; exact ⟨rfl, rfl, rfl⟩) ?_
  refine And.intro (fun h => by subst h; exact ⟨rfl, rfl, rfl⟩) ?_
  refine And.intro (fun h => by subst h; exact ⟨rfl, rfl, rfl⟩) ?_
  refine And.intro (fun h => by subst h; exact ⟨rfl, rfl, rfl⟩) ?_
  refine And.intro (fun h => by subst h; exact ⟨rfl, rfl, rfl⟩) ?_
  refine And.intro (fun h => by subst h; exact ⟨rfl, rfl, rfl⟩) ?_
  refine And.intro (fun h => by subst h; exact ⟨rfl, rfl, rfl⟩) ?_
  refine And.intro (fun h => by subst h; exact ⟨rfl, rfl, rfl⟩) ?_
  refine And.intro (fun h => by subst h; exact ⟨rfl, rfl, rfl⟩) ?_
  refine And.intro (fun h => by subst h; exact ⟨rfl, rfl, rfl⟩) ?_
  refine And.intro (fun h => by subst h; exact ⟨rfl, rfl, rfl⟩) ?_
  refine And.intro (fun h => by subst h; exact ⟨rfl, rfl, rfl⟩) ?_
  refine And.intro (fun h => by subst h; exact ⟨rfl, rfl, rfl⟩) ?_
  refine And.intro (fun h => by subst h; exact ⟨rfl, rfl, rfl⟩) ?_
  refine And.intro (fun h => by subst h; exact ⟨rfl, rfl, rfl⟩) ?_
  refine And.intro (fun h => by subst h; exact ⟨rfl, rfl, rfl⟩) ?_
  refine And.intro (fun h => by subst h; exact ⟨rfl, rfl, rfl⟩) ?_
  refine And.intro (fun h => by subst h; exact ⟨rfl, rfl, rfl⟩) ?_
  refine And.intro (fun h => by subst h; exact ⟨rfl, rfl, rfl⟩) ?_
  refine And.intro (fun h => by subst h; exact ⟨rfl, rfl, rfl⟩) ?_
  refine And.intro (fun h => by subst h; exact ⟨rfl, rfl, rfl⟩) ?_
  exact trivial
abbrev wThing (tp : List Int32) (b e : Nat) : Prop := nI e - nI b = 1 ∧ atF tp (nI b) - 97 < 5
def spN (tp : List Int32) (b e i : Nat) : Int32 := if nI (lenS.getD i 0) = nI e - nI b then spL tp (nI b) i (lenS.getD i 0) 0 else 0
def wVal (tp : List Int32) (b e : Nat) : Int32 := if wThing tp b e then atF tp (nI b) - 97 else 5
def wSp (tp : List Int32) (b e : Nat) : Int32 :=
  if ¬ spN tp b e 0 = 0 then 3 else if ¬ spN tp b e 1 = 0 then 4 else if ¬ spN tp b e 2 = 0 then 5 else if ¬ spN tp b e 3 = 0 then 6
  else if ¬ spN tp b e 4 = 0 then 7 else if ¬ spN tp b e 5 = 0 then 8 else if ¬ spN tp b e 6 = 0 then 9 else 1
def wSort (tp : List Int32) (b e : Nat) : Int32 := if wThing tp b e then 3 else wSp tp b e
abbrev kV (h1 : AH) : AH → Option Value → Prop := fun h w => h = h1 ∧ w = none
def cNw (i : Nat) : Bool := Nat.beq i 6 || Nat.beq i 29 || Nat.beq i 50 || Nat.beq i 57 || Nat.beq i 60
theorem spF_N {S : CS} {b e : Nat} (h14 : S.1 14 = nI b) (h15 : S.1 15 = nI e) (i : Nat) : spF S i = spN (S.2 2) b e i := by
  unfold spF spN
  rw [h14, h15]
set_option maxRecDepth 100000 in
set_option maxHeartbeats 4000000 in
theorem c_readWord (hL : CLen S) {t b : Nat} (ht : S.1 11 = nI t) (ht2 : t ≤ 160) (hb : S.1 14 = nI b) (hbt : b ≤ t) :
    Ctr l 5 X sgX6_readWord [.ref 1] (encC S ++ T) (kV (encC (cN (cN (cN S 15 (nI (runW (S.2 2) (t - b) b))) 13 (wVal (S.2 2) b (runW (S.2 2) (t - b) b))) 12 (wSort (S.2 2) b (runW (S.2 2) (t - b) b))) ++ T)) := by
  obtain ⟨e, he⟩ : ∃ e, runW (S.2 2) (t - b) b = e := ⟨_, rfl⟩
  rw [he]
  have h2 := Nat.lt_of_le_of_lt (hL 2) (show 1000 < 2 ^ 31 by decide)
  have t60 : ¬ wThing (S.2 2) b e → ∀ x1, WP l (rmD 5 0 0) X sgX6_readWord kX6_readWord (kV (encC (cN (cN (cN S 15 (nI e)) 13 (wVal (S.2 2) b e)) 12 (wSort (S.2 2) b e)) ++ T)) 60 [some (.ref 1), x1, some (.int 0)] [] (encC (cN (cN S 15 (nI e)) 13 (wVal (S.2 2) b e)) ++ T) 0 0 := by
    intro hn x1
    obtain ⟨v, hv⟩ : ∃ v, wVal (S.2 2) b e = v := ⟨_, rfl⟩
    rw [hv]
    have sp : ∀ i, spF (cN (cN S 15 (nI e)) 13 v) i = spN (S.2 2) b e i := fun i => spF_N (S := cN (cN S 15 (nI e)) 13 v) hb rfl i
    have c0 := c_spells_0 (l := l) (X := X) (S := cN (cN S 15 (nI e)) 13 v) (T := T) hL
    have c1 := c_spells_1 (l := l) (X := X) (S := cN (cN S 15 (nI e)) 13 v) (T := T) hL
    have c2 := c_spells_2 (l := l) (X := X) (S := cN (cN S 15 (nI e)) 13 v) (T := T) hL
    have c3 := c_spells_3 (l := l) (X := X) (S := cN (cN S 15 (nI e)) 13 v) (T := T) hL
    have c4 := c_spells_4 (l := l) (X := X) (S := cN (cN S 15 (nI e)) 13 v) (T := T) hL
    have c5 := c_spells_5 (l := l) (X := X) (S := cN (cN S 15 (nI e)) 13 v) (T := T) hL
    have c6 := c_spells_6 (l := l) (X := X) (S := cN (cN S 15 (nI e)) 13 v) (T := T) hL
    rw [sp] at c0 c1 c2 c3 c4 c5 c6
    rw [show wSort (S.2 2) b e = wSp (S.2 2) b e from if_neg hn]
    unfold wSp
    generalize spN (S.2 2) b e 0 = v0 at c0 ⊢
    generalize spN (S.2 2) b e 1 = v1 at c1 ⊢
    generalize spN (S.2 2) b e 2 = v2 at c2 ⊢
    generalize spN (S.2 2) b e 3 = v3 at c3 ⊢
    generalize spN (S.2 2) b e 4 = v4 at c4 ⊢
    generalize spN (S.2 2) b e 5 = v5 at c5 ⊢
    generalize spN (S.2 2) b e 6 = v6 at c6 ⊢
    clear sp
    by_cases q0 : v0 = 0
    · rw [if_neg (fun z => z q0)]
      by_cases q1 : v1 = 0
      · rw [if_neg (fun z => z q1)]
        by_cases q2 : v2 = 0
        · rw [if_neg (fun z => z q2)]
          by_cases q3 : v3 = 0
          · rw [if_neg (fun z => z q3)]
            by_cases q4 : v4 = 0
            · rw [if_neg (fun z => z q4)]
              by_cases q5 : v5 = 0
              · rw [if_neg (fun z => z q5)]
                by_cases q6 : v6 = 0
                · rw [if_neg (fun z => z q6)]
                  exact run_sound okX6_readWord noCut 200 (kH c0 (by decide) (brT q0 (kH c1 (by decide) (brT q1 (kH c2 (by decide) (brT q2 (kH c3 (by decide) (brT q3 (kH c4 (by decide) (brT q4 (kH c5 (by decide) (brT q5 (kH c6 (by decide) (brT q6 (And.intro trivial ⟨rfl, rfl, rfl⟩)))))))))))))))
                · rw [if_pos q6]
                  exact run_sound okX6_readWord noCut 200 (kH c0 (by decide) (brT q0 (kH c1 (by decide) (brT q1 (kH c2 (by decide) (brT q2 (kH c3 (by decide) (brT q3 (kH c4 (by decide) (brT q4 (kH c5 (by decide) (brT q5 (kH c6 (by decide) (brF q6 (And.intro trivial ⟨rfl, rfl, rfl⟩)))))))))))))))
              · rw [if_pos q5]
                exact run_sound okX6_readWord noCut 200 (kH c0 (by decide) (brT q0 (kH c1 (by decide) (brT q1 (kH c2 (by decide) (brT q2 (kH c3 (by decide) (brT q3 (kH c4 (by decide) (brT q4 (kH c5 (by decide) (brF q5 (And.intro trivial ⟨rfl, rfl, rfl⟩)))))))))))))
            · rw [if_pos q4]
              exact run_sound okX6_readWord noCut 200 (kH c0 (by decide) (brT q0 (kH c1 (by decide) (brT q1 (kH c2 (by decide) (brT q2 (kH c3 (by decide) (brT q3 (kH c4 (by decide) (brF q4 (And.intro trivial ⟨rfl, rfl, rfl⟩)))))))))))
          · rw [if_pos q3]
            exact run_sound okX6_readWord noCut 200 (kH c0 (by decide) (brT q0 (kH c1 (by decide) (brT q1 (kH c2 (by decide) (brT q2 (kH c3 (by decide) (brF q3 (And.intro trivial ⟨rfl, rfl, rfl⟩)))))))))
        · rw [if_pos q2]
          exact run_sound okX6_readWord noCut 200 (kH c0 (by decide) (brT q0 (kH c1 (by decide) (brT q1 (kH c2 (by decide) (brF q2 (And.intro trivial ⟨rfl, rfl, rfl⟩)))))))
      · rw [if_pos q1]
        exact run_sound okX6_readWord noCut 200 (kH c0 (by decide) (brT q0 (kH c1 (by decide) (brF q1 (And.intro trivial ⟨rfl, rfl, rfl⟩)))))
    · rw [if_pos q0]
      exact run_sound okX6_readWord noCut 200 (kH c0 (by decide) (brF q0 (And.intro trivial ⟨rfl, rfl, rfl⟩)))
  have t29 : ∀ x1, WP l (rmD 5 0 0) X sgX6_readWord kX6_readWord (kV (encC (cN (cN (cN S 15 (nI e)) 13 (wVal (S.2 2) b e)) 12 (wSort (S.2 2) b e)) ++ T)) 29 [some (.ref 1), some (.int x1), none] [] (encC (cN S 15 (nI e)) ++ T) 0 0 := by
    intro x1
    have ca : Ans l 0 X sgX7_at [.ref 2, .int (S.1 14)] (encC (cN S 15 (nI e)) ++ T) (atF (S.2 2) (nI b)) := by rw [← hb]; exact c_at (xs := S.2 2) rfl h2
    have yes : wThing (S.2 2) b e → WP l (rmD 5 0 0) X sgX6_readWord kX6_readWord (kV (encC (cN (cN (cN S 15 (nI e)) 13 (wVal (S.2 2) b e)) 12 (wSort (S.2 2) b e)) ++ T)) 50 [some (.ref 1), some (.int (atF (S.2 2) (nI b) - 97)), none] [.int 1] (encC (cN S 15 (nI e)) ++ T) 0 0 := by
      intro hw
      rw [show wVal (S.2 2) b e = atF (S.2 2) (nI b) - 97 from if_pos hw, show wSort (S.2 2) b e = 3 from if_pos hw]
      exact run_sound okX6_readWord (fun i => Nat.beq i 60) 200 (brF (by decide) (And.intro trivial (brF (by decide) (And.intro trivial ⟨rfl, rfl, rfl⟩))))
    have no : ¬ wThing (S.2 2) b e → WP l (rmD 5 0 0) X sgX6_readWord kX6_readWord (kV (encC (cN (cN (cN S 15 (nI e)) 13 (wVal (S.2 2) b e)) 12 (wSort (S.2 2) b e)) ++ T)) 50 [some (.ref 1), some (.int (atF (S.2 2) (nI b) - 97)), none] [.int 0] (encC (cN S 15 (nI e)) ++ T) 0 0 := by
      intro hw
      have q := t60 hw (some (.int (atF (S.2 2) (nI b) - 97)))
      rw [show wVal (S.2 2) b e = 5 from if_neg hw] at q ⊢
      exact run_sound okX6_readWord (fun i => Nat.beq i 60) 200 (brT rfl (And.intro trivial (brT rfl q)))
    refine run_sound okX6_readWord (fun i => Nat.beq i 50) 200 (kH ca (by decide) (br (fun h => ?_) (fun h => ?_)))
    · have h : nI e - S.1 14 = 1 := h
      rw [hb] at h
      exact br (fun h3 => no (fun z => absurd z.2 (Int32.not_lt.mpr h3))) (fun h3 => yes ⟨h, Int32.not_le.mp h3⟩)
    · have h : ¬ nI e - S.1 14 = 1 := h
      rw [hb] at h
      exact no (fun z => h z.1)
  refine Ctr.of okX6_readWord rfl (Nat.le_of_ble_eq_true rfl) (run_sound okX6_readWord cNw 200 ?_)
  have key : ∀ a, a ≤ t → b ≤ a → runW (S.2 2) (t - a) a = e → WP l (rmD 5 0 0) X sgX6_readWord kX6_readWord (kV (encC (cN (cN (cN S 15 (nI e)) 13 (wVal (S.2 2) b e)) 12 (wSort (S.2 2) b e)) ++ T)) 6 [some (.ref 1), some (.int (nI (a - b))), none] [] (encC (cN S 15 (nI a)) ++ T) 0 0 := by
    refine down (fun hba hr => ?_) (fun a ha ih hba hr => ?_)
    · rw [Nat.sub_self] at hr
      have hr : t = e := hr
      rw [hr]
      refine run_sound okX6_readWord cNw 200 (br (fun _ => t29 _) (fun _ => brT ?_ (t29 _)))
      show S.1 11 ≤ nI e
      rw [ht, hr]
      exact Int32.le_refl _
    · rw [show t - a = (t - (a + 1)) + 1 by omega, runW] at hr
      have ca : Ans l 0 X sgX7_at [.ref 2, .int (nI a)] (encC (cN S 15 (nI a)) ++ T) ((S.2 2).getD a 0) := by rw [← atF_nI _ (show a < 2 ^ 31 by omega)]; exact c_at (xs := S.2 2) rfl h2
      refine run_sound okX6_readWord cNw 200 (brF (nI_ge (b := 160) (by omega) (by decide)) (brF ?_ (kH ca (by decide) (kH (c_isLetter _) (by decide) (brB' (fun h => ?_) (fun h => ?_))))))
      · show ¬ S.1 11 ≤ nI a
        rw [ht]
        exact nI_ge ha (by omega)
      · rw [if_neg h] at hr
        rw [hr]
        exact t29 _
      · rw [if_pos h] at hr
        have ih := ih (by omega) hr
        rw [show a + 1 - b = (a - b) + 1 by omega, ← nI_1 (a - b), ← nI_1 a] at ih
        exact And.intro rfl (And.intro trivial ih)
  have q := key b hbt (Nat.le_refl _) he
  rw [Nat.sub_self, ← hb] at q
  exact And.intro trivial q
def dgC (tp : List Int32) : Nat → Nat → Int32 → Nat × Int32
  | 0, a, v => (a, v)
  | m + 1, a, v => if isDig (tp.getD a 0) then dgC tp m (a + 1) (v * 10 + tp.getD a 0 - 48) else (a, v)
def nSort (b e : Nat) : Int32 := if nI e - nI b ≤ 4 then 2 else 1
def cNn (i : Nat) : Bool := Nat.beq i 6 || Nat.beq i 43
set_option maxRecDepth 100000 in
set_option maxHeartbeats 4000000 in
theorem c_readNumber (hL : CLen S) {t b : Nat} (ht : S.1 11 = nI t) (ht2 : t ≤ 160) (hb : S.1 14 = nI b) (hbt : b ≤ t) (hv : S.1 13 = 0) :
    Ctr l 1 X sgX6_readNumber [.ref 1] (encC S ++ T) (kV (encC (cN (cN (cN S 15 (nI (dgC (S.2 2) (t - b) b 0).1)) 13 (dgC (S.2 2) (t - b) b 0).2) 12 (nSort b (dgC (S.2 2) (t - b) b 0).1)) ++ T)) := by
  obtain ⟨r, hr0⟩ : ∃ r, dgC (S.2 2) (t - b) b 0 = r := ⟨_, rfl⟩
  rw [hr0]
  have h2 := Nat.lt_of_le_of_lt (hL 2) (show 1000 < 2 ^ 31 by decide)
  have t43 : ∀ x1, WP l (rmD 1 0 0) X sgX6_readNumber kX6_readNumber (kV (encC (cN (cN (cN S 15 (nI r.1)) 13 r.2) 12 (nSort b r.1)) ++ T)) 43 [some (.ref 1), some (.int x1)] [] (encC (cN (cN S 15 (nI r.1)) 13 r.2) ++ T) 0 0 := by
    intro x1
    refine run_sound okX6_readNumber noCut 200 (br (fun h => ?_) (fun h => ?_))
    · have h : nI r.1 - S.1 14 ≤ 4 := h
      rw [hb] at h
      rw [show nSort b r.1 = 2 from if_pos h]
      exact And.intro trivial ⟨rfl, rfl, rfl⟩
    · have h : ¬ nI r.1 - S.1 14 ≤ 4 := h
      rw [hb] at h
      rw [show nSort b r.1 = 1 from if_neg h]
      exact And.intro trivial ⟨rfl, rfl, rfl⟩
  refine Ctr.of okX6_readNumber rfl (Nat.le_of_ble_eq_true rfl) (run_sound okX6_readNumber cNn 200 ?_)
  have key : ∀ a, a ≤ t → b ≤ a → ∀ v, dgC (S.2 2) (t - a) a v = r → WP l (rmD 1 0 0) X sgX6_readNumber kX6_readNumber (kV (encC (cN (cN (cN S 15 (nI r.1)) 13 r.2) 12 (nSort b r.1)) ++ T)) 6 [some (.ref 1), some (.int (nI (a - b)))] [] (encC (cN (cN S 15 (nI a)) 13 v) ++ T) 0 0 := by
    refine down (fun hba v hr => ?_) (fun a ha ih hba v hr => ?_)
    · rw [Nat.sub_self] at hr
      have hr : (t, v) = r := hr
      subst hr
      refine run_sound okX6_readNumber cNn 200 (br (fun _ => t43 _) (fun _ => brT ?_ (t43 _)))
      show S.1 11 ≤ nI t
      rw [ht]
      exact Int32.le_refl _
    · rw [show t - a = (t - (a + 1)) + 1 by omega, dgC] at hr
      have ca : ∀ S' : CS, S'.2 = S.2 → Ans l 0 X sgX7_at [.ref 2, .int (nI a)] (encC S' ++ T) ((S.2 2).getD a 0) := by
        intro S' hS'
        rw [← atF_nI _ (show a < 2 ^ 31 by omega), ← hS']
        exact c_at (xs := S'.2 2) rfl (by rw [hS']; exact h2)
      refine run_sound okX6_readNumber cNn 200 (brF (nI_ge (b := 160) (by omega) (by decide)) (brF ?_ (kH (ca _ rfl) (by decide) (kH (c_isDigit _) (by decide) (brB' (fun h => ?_) (fun h => ?_))))))
      · show ¬ S.1 11 ≤ nI a
        rw [ht]
        exact nI_ge ha (by omega)
      · rw [if_neg h] at hr
        subst hr
        exact t43 _
      · rw [if_pos h] at hr
        have ih := ih (by omega) _ hr
        rw [show a + 1 - b = (a - b) + 1 by omega, ← nI_1 (a - b), ← nI_1 a] at ih
        exact kH (ca (cN (cN S 15 (nI a)) 13 v) rfl) (by decide) (And.intro trivial (And.intro rfl (And.intro trivial ih)))
  have q := key b hbt (Nat.le_refl _) 0 hr0
  rw [Nat.sub_self, ← hb, ← hv] at q
  exact And.intro trivial q
/-- the next token: its place, where it ends, its sort, its value -/
abbrev TK : Type := Nat × Nat × Int32 × Int32
def clT (tp : List Int32) (t b : Nat) : TK :=
  if b = t then (b, b, 0, 0)
  else if isLet (tp.getD b 0) then (b, runW tp (t - b) b, wSort tp b (runW tp (t - b) b), wVal tp b (runW tp (t - b) b))
  else if isDig (tp.getD b 0) then (b, (dgC tp (t - b) b 0).1, nSort b (dgC tp (t - b) b 0).1, (dgC tp (t - b) b 0).2)
  else (b, b + 1, if sgC (tp.getD b 0) = true then tp.getD b 0 else 1, 0)
def lexF (tp : List Int32) (t a : Nat) : TK := clT tp t (skR tp (t - a) a)
def tkS (S : CS) (k : TK) : CS := cN (cN (cN (cN S 14 (nI k.1)) 15 (nI k.2.1)) 12 k.2.2.1) 13 k.2.2.2
def cNa (i : Nat) : Bool := Nat.beq i 6 || Nat.beq i 29
set_option maxRecDepth 100000 in
set_option maxHeartbeats 4000000 in
theorem c_advance (hL : CLen S) {t a : Nat} (ht : S.1 11 = nI t) (ht2 : t ≤ 160) (ha : S.1 15 = nI a) (hat : a ≤ t) : Ctr l 6 X sgX6_advance [.ref 1] (encC S ++ T) (kV (encC (tkS S (lexF (S.2 2) t a)) ++ T)) := by
  obtain ⟨b, hb⟩ : ∃ b, skR (S.2 2) (t - a) a = b := ⟨_, rfl⟩
  rw [show lexF (S.2 2) t a = clT (S.2 2) t b by unfold lexF; rw [hb]]
  have h2 := Nat.lt_of_le_of_lt (hL 2) (show 1000 < 2 ^ 31 by decide)
  have t29 : b ≤ t → ∀ x1, WP l (rmD 6 0 0) X sgX6_advance kX6_advance (kV (encC (tkS S (clT (S.2 2) t b)) ++ T)) 29 [some (.ref 1), some (.int x1)] [] (encC (cN S 14 (nI b)) ++ T) 0 0 := by
    intro hbt x1
    have ca : ∀ S' : CS, S'.2 = S.2 → Ans l 0 X sgX7_at [.ref 2, .int (nI b)] (encC S' ++ T) ((S.2 2).getD b 0) := by
      intro S' hS'
      rw [← atF_nI _ (show b < 2 ^ 31 by omega), ← hS']
      exact c_at (xs := S'.2 2) rfl (by rw [hS']; exact h2)
    by_cases e : b = t
    · rw [show clT (S.2 2) t b = (b, b, 0, 0) from if_pos e]
      refine run_sound okX6_advance noCut 200 (And.intro trivial (brF ?_ (And.intro trivial (And.intro trivial ⟨rfl, rfl, rfl⟩))))
      show ¬ nI b < S.1 11
      rw [ht, e]
      exact Int32.not_lt.mpr (Int32.le_refl _)
    · have hlt : nI b < S.1 11 := by rw [ht]; exact nI_lt (by omega) (by omega)
      by_cases p : isLet ((S.2 2).getD b 0)
      · rw [show clT (S.2 2) t b = (b, runW (S.2 2) (t - b) b, wSort (S.2 2) b (runW (S.2 2) (t - b) b), wVal (S.2 2) b (runW (S.2 2) (t - b) b)) from (if_neg e).trans (if_pos p)]
        have hw : Ctr l 5 X sgX6_readWord [.ref 1] (encC (cN (cN S 14 (nI b)) 13 0) ++ T) (kV (encC (cN (cN (cN (cN (cN S 14 (nI b)) 13 0) 15 (nI (runW (S.2 2) (t - b) b))) 13 (wVal (S.2 2) b (runW (S.2 2) (t - b) b))) 12 (wSort (S.2 2) b (runW (S.2 2) (t - b) b))) ++ T)) := c_readWord (S := cN (cN S 14 (nI b)) 13 0) hL ht ht2 (b := b) rfl hbt
        generalize wVal (S.2 2) b (runW (S.2 2) (t - b) b) = va at hw ⊢
        generalize wSort (S.2 2) b (runW (S.2 2) (t - b) b) = so at hw ⊢
        generalize runW (S.2 2) (t - b) b = ee at hw ⊢
        refine run_sound okX6_advance noCut 200 (And.intro trivial (brT hlt (kH (ca (cN (cN S 14 (nI b)) 13 0) rfl) (by decide) (kH (c_isLetter _) (by decide) (brB' (fun z => absurd p z) (fun _ => kH hw (by decide) ⟨rfl, rfl, rfl⟩))))))
      · by_cases q : isDig ((S.2 2).getD b 0)
        · rw [show clT (S.2 2) t b = (b, (dgC (S.2 2) (t - b) b 0).1, nSort b (dgC (S.2 2) (t - b) b 0).1, (dgC (S.2 2) (t - b) b 0).2) from (if_neg e).trans ((if_neg p).trans (if_pos q))]
          have hw : Ctr l 1 X sgX6_readNumber [.ref 1] (encC (cN (cN S 14 (nI b)) 13 0) ++ T) (kV (encC (cN (cN (cN (cN (cN S 14 (nI b)) 13 0) 15 (nI (dgC (S.2 2) (t - b) b 0).1)) 13 (dgC (S.2 2) (t - b) b 0).2) 12 (nSort b (dgC (S.2 2) (t - b) b 0).1)) ++ T)) := c_readNumber (S := cN (cN S 14 (nI b)) 13 0) hL ht ht2 (b := b) rfl hbt rfl
          generalize nSort b (dgC (S.2 2) (t - b) b 0).1 = so at hw ⊢
          generalize dgC (S.2 2) (t - b) b 0 = dd at hw ⊢
          refine run_sound okX6_advance noCut 200 (And.intro trivial (brT hlt (kH (ca (cN (cN S 14 (nI b)) 13 0) rfl) (by decide) (kH (c_isLetter _) (by decide) (brB' (fun _ => kH (ca (cN (cN S 14 (nI b)) 13 0) rfl) (by decide) (kH (c_isDigit _) (by decide) (brB' (fun z => absurd q z) (fun _ => kH hw (by decide) ⟨rfl, rfl, rfl⟩)))) (fun z => absurd z p))))))
        · rw [show clT (S.2 2) t b = (b, b + 1, if sgC ((S.2 2).getD b 0) = true then (S.2 2).getD b 0 else 1, 0) from (if_neg e).trans ((if_neg p).trans (if_neg q))]
          refine run_sound okX6_advance noCut 200 (And.intro trivial (brT hlt (kH (ca (cN (cN S 14 (nI b)) 13 0) rfl) (by decide) (kH (c_isLetter _) (by decide) (brB' (fun _ => kH (ca (cN (cN S 14 (nI b)) 13 0) rfl) (by decide) (kH (c_isDigit _) (by decide) (brB' (fun _ => And.intro trivial (kH (ca (cN (cN (cN S 14 (nI b)) 13 0) 15 (nI b + 1)) rfl) (by decide) (kH (c_isSign _) (by decide) ?_))) (fun z => absurd z q)))) (fun z => absurd z p))))))
          have e1 : nI b + 1 = nI (b + 1) := nI_1 b
          refine brBB (fun z => And.intro trivial ⟨rfl, ?_, rfl⟩) (fun z => kH (ca (cN (cN (cN S 14 (nI b)) 13 0) 15 (nI b + 1)) rfl) (by decide) (And.intro trivial ⟨rfl, ?_, rfl⟩))
          · rw [if_neg (by rw [z]; decide)]
            show encC (cN (cN (cN (cN S 14 (nI b)) 13 0) 15 (nI b + 1)) 12 1) ++ T = _
            rw [e1]
            rfl
          · rw [if_pos z]
            show encC (cN (cN (cN (cN S 14 (nI b)) 13 0) 15 (nI b + 1)) 12 ((S.2 2).getD b 0)) ++ T = _
            rw [e1]
            rfl
  refine Ctr.of okX6_advance rfl (Nat.le_of_ble_eq_true rfl) (run_sound okX6_advance cNa 200 ?_)
  generalize clT (S.2 2) t b = W at t29 ⊢
  have key : ∀ c, c ≤ t → a ≤ c → skR (S.2 2) (t - c) c = b → WP l (rmD 6 0 0) X sgX6_advance kX6_advance (kV (encC (tkS S W) ++ T)) 6 [some (.ref 1), some (.int (nI (c - a)))] [] (encC (cN S 14 (nI c)) ++ T) 0 0 := by
    refine down (fun hac hr => ?_) (fun c hc ih hac hr => ?_)
    · rw [Nat.sub_self] at hr
      have hr : t = b := hr
      rw [hr]
      have ht' : S.1 11 ≤ nI b := by rw [ht, hr]; exact Int32.le_refl _
      exact run_sound okX6_advance cNa 200 (br (fun _ => t29 (by omega) _) (fun _ => brT ht' (t29 (by omega) _)))
    · rw [show t - c = (t - (c + 1)) + 1 by omega, skR] at hr
      have ca : Ans l 0 X sgX7_at [.ref 2, .int (nI c)] (encC (cN S 14 (nI c)) ++ T) ((S.2 2).getD c 0) := by rw [← atF_nI _ (show c < 2 ^ 31 by omega)]; exact c_at (xs := S.2 2) rfl h2
      have go : skR (S.2 2) (t - (c + 1)) (c + 1) = b → WP l (rmD 6 0 0) X sgX6_advance kX6_advance (kV (encC (tkS S W) ++ T)) 6 [some (.ref 1), some (.int (nI (c - a) + 1))] [] (encC (cN S 14 (nI c + 1)) ++ T) 0 0 := by
        intro hr
        have ih := ih (by omega) hr
        rw [show c + 1 - a = (c - a) + 1 by omega, ← nI_1 (c - a), ← nI_1 c] at ih
        exact ih
      refine run_sound okX6_advance cNa 200 (brF (nI_ge (b := 160) (by omega) (by decide)) (brF ?_ (kH ca (by decide) (kH (c_isBlank _) (by decide) (brB' (fun h => ?_) (fun h => And.intro rfl (And.intro trivial ?_)))))))
      · show ¬ S.1 11 ≤ nI c
        rw [ht]
        exact nI_ge hc (by omega)
      · rw [if_neg (show ¬ (S.2 2).getD c 0 = Int32.ofInt 32 from fun z => h (Or.inl z)), if_neg (show ¬ (S.2 2).getD c 0 = Int32.ofInt 10 from fun z => h (Or.inr z))] at hr
        rw [hr]
        exact t29 (by omega) _
      · rcases h with h | h
        · rw [if_pos (show (S.2 2).getD c 0 = Int32.ofInt 32 from h)] at hr
          exact go hr
        · by_cases h1 : (S.2 2).getD c 0 = Int32.ofInt 32
          · rw [if_pos h1] at hr
            exact go hr
          · rw [if_neg h1, if_pos (show (S.2 2).getD c 0 = Int32.ofInt 10 from h)] at hr
            exact go hr
  have q := key a hat (Nat.le_refl _) hb
  rw [Nat.sub_self, ← ha] at q
  exact And.intro trivial q
set_option maxRecDepth 100000 in
theorem c_start (hL : CLen S) {t : Nat} (ht : S.1 11 = nI t) (ht2 : t ≤ 160) : Ctr l 7 X sgX6_start [.ref 1] (encC S ++ T) (kV (encC (tkS S (lexF (S.2 2) t 0)) ++ T)) := by
  have hc := c_advance (l := l) (X := X) (T := T) (S := cN S 15 0) hL ht ht2 (a := 0) rfl (Nat.zero_le _)
  refine Ctr.of okX6_start rfl (Nat.le_of_ble_eq_true rfl) (run_sound okX6_start noCut 200 ?_)
  exact And.intro trivial (kH hc (by decide) ⟨rfl, rfl, rfl⟩)
end LEX
