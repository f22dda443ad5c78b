/-! THE CLASS in general: the tape, pairs, habits, texts' claims and marks -/
section KCALL4
variable {l : Launch} {X : List (List Int32)} {S : CS} {T : AH} {hp : AH} {nt ns nk ta : Nat}
theorem nle {a : Int32} {n : Nat} (e : a = nI n) : a ≤ nI n := by rw [e]; exact Int32.le_refl _
theorem nge {a : Int32} {n k : Nat} (e : a = nI n) (hk : k < n) (hn : n < 2 ^ 31) : ¬ a ≤ nI k := by rw [e]; exact nI_ge hk hn
theorem KI.tape (h : KI S nt ns nk ta) (ht : ta < 160) (v : Int32) : KI (cN (cR S 2 (putF (S.2 2) (S.1 11) v)) 11 (S.1 11 + 1)) nt ns nk (ta + 1) := by
  obtain ⟨⟨hL, h1⟩, h2, ⟨h3, h4⟩, h5⟩ := h
  exact ⟨⟨hL.row 2 _ (by rw [putF_len]; exact hL 2), h1⟩, h2, ⟨by show S.1 11 + 1 = nI (ta + 1); rw [h3, nI_1], by omega⟩, h5⟩
set_option maxRecDepth 100000 in
set_option maxHeartbeats 1000000 in
theorem K_feed (h : KC S) (n a b c d e : Int32) : Ctr l 2 X sgX7_feed [.ref 0, .int n, .int a, .int b, .int c, .int d, .int e] (encC S ++ T) (kcQ T) := by
  obtain ⟨nt, ns, nk, ta, q⟩ := id h
  have h11 : S.1 11 = nI ta := q.2.2.1.1
  have h160 := q.2.2.1.2
  refine Ctr.of okX7_feed rfl (Nat.le_of_ble_eq_true rfl) (run_sound okX7_feed cNg 200 ?_)
  refine br (fun _ => lk h) (fun h1 => br (fun h2 => ?_) (fun _ => lk h))
  obtain ⟨m, hm, rfl⟩ : ∃ m : Nat, m ≤ 5 ∧ n = nI m := by
    have h1 := Int32.le_iff_toInt_le.mp (Int32.not_lt.mp h1)
    have h2 := Int32.le_iff_toInt_le.mp h2
    have e1 : (1 : Int32).toInt = 1 := by decide
    have e5 : (5 : Int32).toInt = 5 := by decide
    have e1' : (Int32.ofInt 1).toInt = 1 := by decide
    have e5' : (Int32.ofInt 5).toInt = 5 := by decide
    refine ⟨n.toInt.toNat, by omega, Int32.toInt_inj.mp ?_⟩
    rw [nI_toInt (by omega)]
    omega
  refine kH (c_isByte _) (by decide) (brB' (fun _ => lk h) (fun _ => ?_))
  refine kH (c_isByte _) (by decide) (brB' (fun _ => lk h) (fun _ => ?_))
  refine kH (c_isByte _) (by decide) (brB' (fun _ => lk h) (fun _ => ?_))
  refine kH (c_isByte _) (by decide) (brB' (fun _ => lk h) (fun _ => ?_))
  refine kH (c_isByte _) (by decide) (brB' (fun _ => lk h) (fun _ => ?_))
  refine br (fun y => ?_) (fun _ => lk h)
  have y : S.1 11 + nI m ≤ 160 := y
  have hb : ta + m ≤ 160 := by
    rw [h11, nI_add] at y
    exact (nI_leI (b := 160) (by omega) (by decide)).mp y
  have key : ∀ j, j ≤ m → ∀ S : CS, KI S nt ns nk (ta + j) → WP l (rmD 2 0 0) X sgX7_feed kX7_feed (kcQ T) 36 [some (.ref 0), some (.int (nI m)), some (.int a), some (.int b), some (.int c), some (.int d), some (.int e), some (.int (nI j))] [] (encC S ++ T) 0 0 := by
    refine down (fun S hS => ?_) (fun j hj ih S hS => ?_)
    · exact run_sound okX7_feed cNg 200 (brT (Int32.le_refl _) (lk ⟨nt, ns, nk, _, hS⟩))
    · have t61 : ∀ x, WP l (rmD 2 0 0) X sgX7_feed kX7_feed (kcQ T) 61 [some (.ref 0), some (.int (nI m)), some (.int a), some (.int b), some (.int c), some (.int d), some (.int e), some (.int (nI j))] [.int x, .ref 1] (encC S ++ T) 0 0 := by
        intro x
        have e11 : S.1 11 = nI (ta + j) := hS.2.2.1.1
        refine run_sound okX7_feed cNg 200 (kH (c_tape hS.1.1 x (by rw [e11]; exact nI_lt (b := 160) (by omega) (by decide))) (by decide) ?_)
        have ih := ih _ (hS.tape (by omega) x)
        rw [← nI_1 j] at ih
        exact ih
      exact run_sound okX7_feed cNg 200 (brF (ge_no (n := m) rfl hj (by omega)) (br (fun _ => t61 _) (fun _ => br (fun _ => t61 _) (fun _ => br (fun _ => t61 _) (fun _ => br (fun _ => t61 _) (fun _ => t61 _))))))
  exact key 0 (Nat.zero_le _) S q
def cNpa (i : Nat) : Bool := Nat.beq i 10 || Nat.beq i 42
set_option maxRecDepth 100000 in
theorem K_pairs (h : KC S) (who : Int32) : Ctr l 2 X sgX7_pairs [.ref 0, .int who] (encC S ++ T) (kqQ S T) := by
  obtain ⟨nt, ns, nk, ta, q⟩ := id h
  have hL := h.len
  have h93 : S.1 93 = nI nt := q.1.2.1
  have h6 := q.1.2.2.1.2
  refine Ctr.of okX7_pairs rfl (Nat.le_of_ble_eq_true rfl) (run_sound okX7_pairs cNpa 200 ?_)
  refine kH (c_isBelow who 5) (by decide) (brB' (fun q => lq h) (fun q => ?_))
  have key : ∀ k, k ≤ nt → ∀ (x : Int32) y, WP l (rmD 2 0 0) X sgX7_pairs kX7_pairs (kqQ S T) 10 [some (.ref 0), some (.int who), some (.int x), some (.int (nI k)), y] [] (encC S ++ T) 0 0 := by
    refine down (fun x y => ?_) (fun k hk ih x y => ?_)
    · exact run_sound okX7_pairs cNpa 200 (brT (nle h93) (lq h))
    · have t42 : ∀ (x : Int32) y, WP l (rmD 2 0 0) X sgX7_pairs kX7_pairs (kqQ S T) 42 [some (.ref 0), some (.int who), some (.int x), some (.int (nI k)), y] [] (encC S ++ T) 0 0 := by
        intro x y
        have ih := ih x y
        rw [← nI_1 k] at ih
        exact run_sound okX7_pairs cNpa 200 ih
      exact run_sound okX7_pairs cNpa 200 (brF (nge h93 hk (by omega)) (kH (c_side hL _ _ _) (by decide) (kH (c_side hL _ _ _) (by decide) (br (fun _ => brF (by decide) (t42 _ _)) (fun _ => brT rfl (t42 _ _))))))
  exact key 0 (Nat.zero_le _) _ _
set_option maxRecDepth 100000 in
theorem K_behind (hX : X[0]? = some soInL) (h : KC S) (n what : Int32) : Ctr l 6 X sgX7_behind [.ref 0, .int n, .int what] (encC S ++ T) (kqQ S T) := by
  obtain ⟨m, hm, em⟩ := h.s12
  have hL := h.len
  refine Ctr.of okX7_behind rfl (Nat.le_of_ble_eq_true rfl) (run_sound okX7_behind noCut 200 ?_)
  refine br (fun _ => lq h) (fun h1 => br (fun h2 => ?_) (fun _ => lq h))
  have h2 : n ≤ S.1 134 := h2
  obtain ⟨k, hk, rfl⟩ := p3_or (c := S.1 134) (z := m) h1 h2 (by rw [em, nI_toInt (by omega)]) (by omega)
  refine kH (c_fittingFirst hL (m := k) (by omega)) (by decide) ?_
  exact And.intro (fun _ => lq h) (And.intro (fun _ => kH (c_bitCount _) (by decide) (lq h)) (And.intro (fun _ => kH (c_thingsSure hX _ _) (by decide) (lq h)) (And.intro (fun _ => kH (c_thingsSure hX _ _) (by decide) (lq h)) (And.intro (fun _ => kH (c_worldNumber _ _) (by decide) (lq h)) trivial))))
def cNhb (i : Nat) : Bool := Nat.beq i 11 || Nat.beq i 19 || Nat.beq i 47 || Nat.beq i 53
set_option maxRecDepth 100000 in
theorem K_habit (h : KC S) (s w part : Int32) : Ctr l 5 X sgX7_habit [.ref 0, .int s, .int w, .int part] (encC S ++ T) (kqL S T) := by
  obtain ⟨m, hm, em⟩ := h.s12
  have hL := h.len
  refine Ctr.of okX7_habit rfl (Nat.le_of_ble_eq_true rfl) (run_sound okX7_habit cNhb 200 ?_)
  have t11 : WP l (rmD 5 0 0) X sgX7_habit kX7_habit (kqL S T) 11 [some (.ref 0), some (.int s), some (.int w), some (.int part), none, none, none, none, none] [] (encC S ++ T) 0 0 := run_sound okX7_habit noCut 200 ⟨rfl, lqL h⟩
  refine kH (c_isSpeaker s) (by decide) (brB' (fun _ => t11) (fun _ => kH (c_isWorld w) (by decide) (brB' (fun _ => t11) (fun _ => kH (c_isBelow part 2) (by decide) (brB' (fun _ => t11) (fun _ => ?_))))))
  have key : ∀ k, k ≤ m → ∀ (x y : Int32) u v, WP l (rmD 5 0 0) X sgX7_habit kX7_habit (kqL S T) 19 [some (.ref 0), some (.int s), some (.int w), some (.int part), some (.int x), some (.int y), some (.int (nI k)), u, v] [] (encC S ++ T) 0 0 := by
    refine down (fun x y u v => ?_) (fun k hk ih x y u v => ?_)
    · exact run_sound okX7_habit cNhb 200 (brT (nle em) (kH (c_inLowestTerms _ _ _) (by decide) ⟨rfl, lqL h⟩))
    · have t53 : ∀ (x y : Int32) u v, WP l (rmD 5 0 0) X sgX7_habit kX7_habit (kqL S T) 53 [some (.ref 0), some (.int s), some (.int w), some (.int part), some (.int x), some (.int y), some (.int (nI k)), u, v] [] (encC S ++ T) 0 0 := by
        intro x y u v
        have ih := ih x y u v
        rw [← nI_1 k] at ih
        exact run_sound okX7_habit cNhb 200 ih
      have t47 : ∀ (x y a b : Int32), WP l (rmD 5 0 0) X sgX7_habit kX7_habit (kqL S T) 47 [some (.ref 0), some (.int s), some (.int w), some (.int part), some (.int x), some (.int y), some (.int (nI k)), some (.int a), some (.int b)] [] (encC S ++ T) 0 0 := by
        intro x y a b
        exact run_sound okX7_habit cNhb 200 (br (fun _ => br (fun _ => t53 _ _ _ _) (fun _ => t53 _ _ _ _)) (fun _ => t53 _ _ _ _))
      exact run_sound okX7_habit cNhb 200 (brF (nge em hk (by omega)) (kH (c_sayingPart hL _ _) (by decide) (br (fun _ => kH (c_firstSaid hL _) (by decide) (kH (c_bit _ _) (by decide) (kH (c_secondSaid hL _) (by decide) (kH (c_bit _ _) (by decide) (br (fun _ => t47 _ _ _ _) (fun _ => t47 _ _ _ _)))))) (fun _ => t53 _ _ _ _))))
  exact key 0 (Nat.zero_le _) _ _ _ _
def cNcl (i : Nat) : Bool := Nat.beq i 17 || Nat.beq i 36
set_option maxRecDepth 100000 in
theorem K_claims (h : KC S) (t : Int32) : Ctr l 7 X sgX7_claims [.ref 0, .int t] (encC S ++ T) (kqQ S T) := by
  obtain ⟨nt, ns, nk, ta, q⟩ := id h
  have hL := h.len
  have h93 : S.1 93 = nI nt := q.1.2.1
  have h6 := q.1.2.2.1.2
  refine Ctr.of okX7_claims rfl (Nat.le_of_ble_eq_true rfl) (run_sound okX7_claims cNcl 200 ?_)
  refine kH (c_isText t) (by decide) (brB' (fun _ => lq h) (fun _ => kH (c_fitting q.1) (by decide) (kH (c_onceOf hL t) (by decide) ?_)))
  have key : ∀ so : Int32, ∀ k, k ≤ nt → ∀ (x : Int32), WP l (rmD 7 0 0) X sgX7_claims kX7_claims (kqQ S T) 17 [some (.ref 0), some (.int t), some (.int so), some (.int x), some (.int (nI k))] [] (encC S ++ T) 0 0 := by
    intro so
    refine down (fun x => ?_) (fun k hk ih x => ?_)
    · exact run_sound okX7_claims cNcl 200 (brT (nle h93) (lq h))
    · have t36 : ∀ (x : Int32), WP l (rmD 7 0 0) X sgX7_claims kX7_claims (kqQ S T) 36 [some (.ref 0), some (.int t), some (.int so), some (.int x), some (.int (nI k))] [] (encC S ++ T) 0 0 := by
        intro x
        have ih := ih x
        rw [← nI_1 k] at ih
        exact run_sound okX7_claims cNcl 200 ih
      exact run_sound okX7_claims cNcl 200 (brF (nge h93 hk (by omega)) (kH (c_onceOf hL _) (by decide) (br (fun _ => t36 _) (fun _ => t36 _))))
  exact key _ 0 (Nat.zero_le _) _
end KCALL4
