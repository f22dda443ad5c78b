/-! THE CLASS in general: two, hide, settle, many, judge, drawn, mean -/
section KCALL5
variable {l : Launch} {X : List (List Int32)} {S : CS} {T : AH} {hp : AH} {nt ns nk ta : Nat}
def kNtw (i : Nat) : Bool := Nat.beq i 21 || Nat.beq i 28 || Nat.beq i 50
set_option maxRecDepth 100000 in
theorem K_two (h : KC S) (what : Int32) : Ctr l 7 X sgX7_two [.ref 0, .int what] (encC S ++ T) (kqQ S T) := by
  obtain ⟨nt, ns, nk, ta, q⟩ := id h
  have n6 := q.1.2.2.1.2
  have s5 := q.1.2.2.2.2.1
  refine Ctr.of okX7_two rfl (Nat.le_of_ble_eq_true rfl) (run_sound okX7_two kNtw 200 ?_)
  refine kH (c_isBelow what 2) (by decide) (brB' (fun _ => lq h) (fun _ => br (fun _ => lq h) (fun _ => kH (c_fitting q.1) (by decide) ?_)))
  have out : ∀ k, k ≤ ns → ∀ B : BQ, ∀ (f x y : Int32) u v, WP l (rmD 7 0 0) X sgX7_two kX7_two (kqQ S T) 21 [some (.ref 0), some (.int what), some (.int f), some (.int x), some (.int y), some (.int (nI k)), u, v] [] (encC (setB S B) ++ T) 0 0 := by
    refine down (fun B f x y u v => ?_) (fun k hk ih B f x y u v => ?_)
    · exact run_sound okX7_two kNtw 200 (brT (nle q.1.2.2.2.1) (br (fun _ => lqB B) (fun _ => lqB B)))
    · have inn : ∀ j, j ≤ nt → ∀ B : BQ, ∀ (x y : Int32) v, WP l (rmD 7 0 0) X sgX7_two kX7_two (kqQ S T) 28 [some (.ref 0), some (.int what), some (.int f), some (.int x), some (.int y), some (.int (nI k)), some (.int (nI j)), v] [] (encC (setB S B) ++ T) 0 0 := by
        refine down (fun B x y v => ?_) (fun j hj ih2 B x y v => ?_)
        · have ih := ih B f x y (some (.int (nI nt))) v
          rw [← nI_1 k] at ih
          exact run_sound okX7_two kNtw 200 (brT (nle q.1.2.1) ih)
        · have t50 : ∀ B : BQ, ∀ (x y : Int32) v, WP l (rmD 7 0 0) X sgX7_two kX7_two (kqQ S T) 50 [some (.ref 0), some (.int what), some (.int f), some (.int x), some (.int y), some (.int (nI k)), some (.int (nI j)), v] [] (encC (setB S B) ++ T) 0 0 := by
            intro B x y v
            have ih2 := ih2 B x y v
            rw [← nI_1 j] at ih2
            exact run_sound okX7_two kNtw 200 ih2
          refine run_sound okX7_two kNtw 200 (brF (nge q.1.2.1 hj (by omega)) (kH (c_worstBehind (q.1.setB B) _ _ _) (by decide) ?_))
          exact br (fun _ => t50 _ _ _ _) (fun _ => t50 _ _ _ _)
      exact run_sound okX7_two kNtw 200 (brF (nge q.1.2.2.2.1 hk (by omega)) (inn 0 (Nat.zero_le _) B x y v))
  exact out 0 (Nat.zero_le _) (getB S) _ _ _ _ _
def kNhi (i : Nat) : Bool := Nat.beq i 11 || Nat.beq i 23 || Nat.beq i 62
set_option maxRecDepth 100000 in
theorem K_hide (hX : X[0]? = some soInL) (h : KC S) (s w x : Int32) : Ctr l 7 X sgX7_hide [.ref 0, .int s, .int w, .int x] (encC S ++ T) (kqQ S T) := by
  obtain ⟨nt, ns, nk, ta, q⟩ := id h
  have hL := h.len
  have n6 := q.1.2.2.1.2
  have h93 : Int32.ofInt 2 * S.1 93 = nI (2 * nt) := by
    rw [q.1.2.1]
    exact nI_mul 2 nt
  refine Ctr.of okX7_hide rfl (Nat.le_of_ble_eq_true rfl) (run_sound okX7_hide kNhi 200 ?_)
  have t11 : WP l (rmD 7 0 0) X sgX7_hide kX7_hide (kqQ S T) 11 [some (.ref 0), some (.int s), some (.int w), some (.int x), none, none, none, none, none] [] (encC S ++ T) 0 0 := run_sound okX7_hide noCut 200 (lq h)
  refine kH (c_isSpeaker s) (by decide) (brB' (fun _ => t11) (fun _ => kH (c_isWorld w) (by decide) (brB' (fun _ => t11) (fun _ => kH (c_isBelow x 5) (by decide) (brB' (fun _ => t11) (fun _ => kH (c_lawful hL) (by decide) (kH (c_fitting q.1) (by decide) ?_)))))))
  have key : ∀ a b : Int32, ∀ k, k ≤ 2 * nt → ∀ (y : Int32) z, WP l (rmD 7 0 0) X sgX7_hide kX7_hide (kqQ S T) 23 [some (.ref 0), some (.int s), some (.int w), some (.int x), some (.int a), some (.int b), some (.int y), some (.int (nI k)), z] [] (encC S ++ T) 0 0 := by
    intro a b
    refine down (fun y z => ?_) (fun k hk ih y z => ?_)
    · exact run_sound okX7_hide kNhi 200 (brT (nle h93) (lq h))
    · have t62 : ∀ (y : Int32) z, WP l (rmD 7 0 0) X sgX7_hide kX7_hide (kqQ S T) 62 [some (.ref 0), some (.int s), some (.int w), some (.int x), some (.int a), some (.int b), some (.int y), some (.int (nI k)), z] [] (encC S ++ T) 0 0 := by
        intro y z
        have ih := ih y z
        rw [← nI_1 k] at ih
        exact run_sound okX7_hide kNhi 200 ih
      exact run_sound okX7_hide kNhi 200 (brF (nge h93 hk (by omega)) (kH (c_sayableNext hL _ _ _ _) (by decide) (kH (c_bit _ _) (by decide) (br (fun _ => kH (c_isSure hX _ _) (by decide) (br (fun _ => t62 _ _) (fun _ => t62 _ _))) (fun _ => t62 _ _)))))
  exact key _ _ 0 (Nat.zero_le _) _ _
def kNmk (i : Nat) : Bool := Nat.beq i 4 || Nat.beq i 27
set_option maxRecDepth 100000 in
theorem c_markOf (h : CInv S nt ns nk) (a w : Int32) : Ctr l 3 X sgX7_markOf [.ref 0, .int a, .int w] (encC S ++ T) (anQ (encC S ++ T)) := by
  have hL := h.1
  have h93 : S.1 93 = nI nt := h.2.1
  have n6 := h.2.2.1.2
  refine Ctr.of okX7_markOf rfl (Nat.le_of_ble_eq_true rfl) (run_sound okX7_markOf kNmk 200 ?_)
  have key : ∀ k, k ≤ nt → ∀ (y : Int32), WP l (rmD 3 0 0) X sgX7_markOf kX7_markOf (anQ (encC S ++ T)) 4 [some (.ref 0), some (.int a), some (.int w), some (.int y), some (.int (nI k))] [] (encC S ++ T) 0 0 := by
    refine down (fun y => ?_) (fun k hk ih y => ?_)
    · exact run_sound okX7_markOf kNmk 200 (brT (nle h93) (any _))
    · have t27 : ∀ (y : Int32), WP l (rmD 3 0 0) X sgX7_markOf kX7_markOf (anQ (encC S ++ T)) 27 [some (.ref 0), some (.int a), some (.int w), some (.int y), some (.int (nI k))] [] (encC S ++ T) 0 0 := by
        intro y
        have ih := ih y
        rw [← nI_1 k] at ih
        exact run_sound okX7_markOf kNmk 200 ih
      exact run_sound okX7_markOf kNmk 200 (brF (nge h93 hk (by omega)) (kH (c_bit _ _) (by decide) (br (fun _ => kH (c_onceOf hL _) (by decide) (kH (c_bit _ _) (by decide) (br (fun _ => t27 _) (fun _ => t27 _)))) (fun _ => t27 _))))
  exact key 0 (Nat.zero_le _) _
def kNse (i : Nat) : Bool := Nat.beq i 4 || Nat.beq i 31
set_option maxRecDepth 100000 in
theorem c_settles (h : CInv S nt ns nk) (a fit : Int32) : Ctr l 4 X sgX7_settles [.ref 0, .int a, .int fit] (encC S ++ T) (anQ (encC S ++ T)) := by
  refine Ctr.of okX7_settles rfl (Nat.le_of_ble_eq_true rfl) (run_sound okX7_settles kNse 200 ?_)
  have key : ∀ k, k ≤ 32 → ∀ (y : Int64) x6, WP l (rmD 4 0 0) X sgX7_settles kX7_settles (anQ (encC S ++ T)) 4 [some (.ref 0), some (.int a), some (.int fit), some (.long y), none, some (.int (nI k)), x6, none] [] (encC S ++ T) 0 0 := by
    refine down (fun y x6 => ?_) (fun k hk ih y x6 => ?_)
    · exact run_sound okX7_settles kNse 200 (brT (Int32.le_refl _) ⟨rfl, any _⟩)
    · have t31 : ∀ (y : Int64) x6, WP l (rmD 4 0 0) X sgX7_settles kX7_settles (anQ (encC S ++ T)) 31 [some (.ref 0), some (.int a), some (.int fit), some (.long y), none, some (.int (nI k)), x6, none] [] (encC S ++ T) 0 0 := by
        intro y x6
        have ih := ih y x6
        rw [← nI_1 k] at ih
        exact run_sound okX7_settles kNse 200 ih
      refine run_sound okX7_settles kNse 200 (brF (ge_no (n := 32) rfl hk (by decide)) (kH (c_bit _ _) (by decide) (br (fun _ => ⟨3, _, by decide, c_markOf h _ _, ?_⟩) (fun _ => t31 _ _))))
      rintro hp' w ⟨rfl, v, rfl⟩
      exact brC (fun _ => t31 _ _) (fun _ => ⟨rfl, any _⟩)
  exact key 0 (Nat.zero_le _) _ _
def kNst (i : Nat) : Bool := Nat.beq i 13 || Nat.beq i 34
set_option maxRecDepth 100000 in
theorem K_settle (h : KC S) (what : Int32) : Ctr l 7 X sgX7_settle [.ref 0, .int what] (encC S ++ T) (kqQ S T) := by
  obtain ⟨nt, ns, nk, ta, q⟩ := id h
  have n6 := q.1.2.2.1.2
  have hp2 : 2 ^ nt ≤ 64 := Nat.le_trans (Nat.pow_le_pow_right (by decide) n6) (by decide)
  have hsh : (1 : Int32) <<< (S.1 93 &&& 31) = nI (2 ^ nt) := by rw [q.1.2.1]; exact shl_nI nt (by omega)
  refine Ctr.of okX7_settle rfl (Nat.le_of_ble_eq_true rfl) (run_sound okX7_settle kNst 200 ?_)
  refine kH (c_isBelow what 2) (by decide) (brB' (fun _ => lq h) (fun _ => kH (c_fitting q.1) (by decide) ?_))
  have key : ∀ f : Int32, ∀ k, k ≤ 2 ^ nt → ∀ (y : Int32), WP l (rmD 7 0 0) X sgX7_settle kX7_settle (kqQ S T) 13 [some (.ref 0), some (.int what), some (.int f), some (.int y), some (.int (nI k))] [] (encC S ++ T) 0 0 := by
    intro f
    refine down (fun y => ?_) (fun k hk ih y => ?_)
    · exact run_sound okX7_settle kNst 200 (brT (ge_end hsh) (br (fun _ => lq h) (fun _ => br (fun _ => lq h) (fun _ => kH (c_bitCount _) (by decide) (lq h)))))
    · have t34 : ∀ (y : Int32), WP l (rmD 7 0 0) X sgX7_settle kX7_settle (kqQ S T) 34 [some (.ref 0), some (.int what), some (.int f), some (.int y), some (.int (nI k))] [] (encC S ++ T) 0 0 := by
        intro y
        have ih := ih y
        rw [← nI_1 k] at ih
        exact run_sound okX7_settle kNst 200 ih
      refine run_sound okX7_settle kNst 200 (brF (ge_no hsh hk (by omega)) ⟨4, _, by decide, c_settles q.1 _ _, ?_⟩)
      rintro hp' w ⟨rfl, v, rfl⟩
      exact br (fun _ => t34 _) (fun _ => br (fun _ => t34 _) (fun _ => kH (c_fewer _ _) (by decide) (t34 _)))
  exact key _ 0 (Nat.zero_le _) _
set_option maxRecDepth 100000 in
theorem K_many (h : KC S) (what : Int32) : Ctr l 7 X sgX7_many [.ref 0, .int what] (encC S ++ T) (kqQ S T) := by
  obtain ⟨nt, ns, nk, ta, q⟩ := id h
  refine Ctr.of okX7_many rfl (Nat.le_of_ble_eq_true rfl) (run_sound okX7_many (fun i => Nat.beq i 21 || Nat.beq i 46) 200 ?_)
  refine kH (c_isBelow what 8) (by decide) (brB' (fun _ => lq h) (fun _ => kH (c_fitting q.1) (by decide) (br (fun _ => lq h) (fun _ => ?_))))
  have key : ∀ f : Int32, ∀ j, j ≤ 32 → ∀ (x y z : Int32) x7, WP l (rmD 7 0 0) X sgX7_many kX7_many (kqQ S T) 21 [some (.ref 0), some (.int what), some (.int f), some (.int x), some (.int y), some (.int z), some (.int (nI j)), x7] [] (encC S ++ T) 0 0 := by
    intro f
    refine down (fun x y z x7 => ?_) (fun j hj ih x y z x7 => ?_)
    · exact run_sound okX7_many (fun i => Nat.beq i 21) 200 (brT (Int32.le_refl _) (br (fun p0 => lq h) (fun p0 => br (fun p1 => lq h) (fun p1 => lq h))))
    · have t46 : ∀ (x y z : Int32) x7, WP l (rmD 7 0 0) X sgX7_many kX7_many (kqQ S T) 46 [some (.ref 0), some (.int what), some (.int f), some (.int x), some (.int y), some (.int z), some (.int (nI j)), x7] [] (encC S ++ T) 0 0 := by
        intro x y z x7
        have ih := ih x y z x7
        rw [← nI_1 j] at ih
        exact run_sound okX7_many (fun i => Nat.beq i 21) 200 ih
      exact run_sound okX7_many (fun i => Nat.beq i 21 || Nat.beq i 46) 200 (brF (ge_no (n := 32) rfl hj (by decide)) (kH (c_bit _ _) (by decide) (br (fun h => kH (c_bitCount _) (by decide) (And.intro (by decide) (And.intro (by decide) (br (fun h2 => t46 _ _ _ _) (fun h2 => t46 _ _ _ _))))) (fun h => t46 _ _ _ _))))
  exact key _ 0 (Nat.zero_le _) _ _ _ _
def kNrf (i : Nat) : Bool := Nat.beq i 40
set_option maxRecDepth 100000 in
theorem c_rowFits (hL : CLen S) (s n w : Int32) : Ctr l 3 X sgX7_rowFits [.ref 0, .int s, .int n, .int w] (encC S ++ T) (anQ (encC S ++ T)) := by
  refine Ctr.of okX7_rowFits rfl (Nat.le_of_ble_eq_true rfl) (run_sound okX7_rowFits noCut 300 ?_)
  refine kH (c_read hL _ _) (by decide) (kH (c_read hL _ _) (by decide) (kH (c_read hL _ _) (by decide) ?_))
  exact kH (c_isSpeaker _) (by decide) (brB' (fun _ => ⟨rfl, any _⟩) (fun _ => kH (c_isText _) (by decide) (brB' (fun _ => ⟨rfl, any _⟩) (fun _ => kH (c_isBelow _ _) (by decide) (brB' (fun _ => ⟨rfl, any _⟩) (fun _ => kH (c_sayableNext hL _ _ _ _) (by decide) (kH (c_bit _ _) (by decide) (br (fun _ => ⟨rfl, any _⟩) (fun _ => ⟨rfl, any _⟩)))))))))
set_option maxRecDepth 100000 in
theorem K_stranger (h : KC S) (seed fit : Int32) : Ctr l 5 X sgX7_strangerAsks [.ref 0, .int seed, .int fit] (encC S ++ T) (fun h w => (∃ B, h = encC (setB S B) ++ T) ∧ ∃ v : Int32, w = some (.int v)) := by
  obtain ⟨nt, ns, nk, ta, q⟩ := id h
  by_cases e : bcF fit = 0
  · refine Ctr.of okX7_strangerAsks rfl (Nat.le_of_ble_eq_true rfl) (run_sound okX7_strangerAsks noCut 200 ?_)
    exact kH (c_bitCount _) (by decide) (brT e ⟨⟨getB S, rfl⟩, _, rfl⟩)
  · exact (c_strangerAsks q.1 seed fit e).weak (fun hp w hw => ⟨⟨_, hw.1⟩, _, hw.2⟩)
set_option maxRecDepth 100000 in
theorem K_drawn (h : KC S) (seed : Int32) : Ctr l 7 X sgX7_drawn [.ref 0, .int seed] (encC S ++ T) (kqQ S T) := by
  obtain ⟨nt, ns, nk, ta, q⟩ := id h
  refine Ctr.of okX7_drawn rfl (Nat.le_of_ble_eq_true rfl) (run_sound okX7_drawn noCut 200 ?_)
  refine br (fun _ => lq h) (fun _ => br (fun _ => kH (c_fitting q.1) (by decide) (br (fun _ => lq h) (fun _ => ⟨5, _, by decide, K_stranger h _ _, ?_⟩))) (fun _ => lq h))
  rintro hp' w ⟨⟨B, rfl⟩, v, rfl⟩
  exact lqB B
def kNme (i : Nat) : Bool := Nat.beq i 17 || Nat.beq i 30
set_option maxRecDepth 100000 in
theorem K_mean (h : KC S) (seed seeds part : Int32) : Ctr l 7 X sgX7_mean [.ref 0, .int seed, .int seeds, .int part] (encC S ++ T) (kqL S T) := by
  obtain ⟨nt, ns, nk, ta, q⟩ := id h
  refine Ctr.of okX7_mean rfl (Nat.le_of_ble_eq_true rfl) (run_sound okX7_mean kNme 200 ?_)
  have t17 : WP l (rmD 7 0 0) X sgX7_mean kX7_mean (kqL S T) 17 [some (.ref 0), some (.int seed), some (.int seeds), some (.int part), none, none, none] [] (encC S ++ T) 0 0 := run_sound okX7_mean noCut 200 ⟨rfl, lqL h⟩
  refine br (fun _ => ⟨rfl, lqL h⟩) (fun _ => br (fun _ => ?_) (fun _ => ⟨rfl, lqL h⟩))
  refine br (fun _ => t17) (fun h3 => br (fun _ => t17) (fun h4 => kH (c_isBelow part 2) (by decide) (brB' (fun _ => t17) (fun _ => kH (c_fitting q.1) (by decide) (br (fun _ => ⟨rfl, lqL h⟩) (fun _ => ?_))))))
  obtain ⟨n, hn, rfl⟩ := in110 ⟨Int32.not_lt.mp h3, Int32.not_lt.mp h4⟩
  have key : ∀ f : Int32, ∀ j, j ≤ n → ∀ B : BQ, ∀ y : Int32, WP l (rmD 7 0 0) X sgX7_mean kX7_mean (kqL S T) 30 [some (.ref 0), some (.int seed), some (.int (nI n)), some (.int part), some (.int f), some (.int y), some (.int (nI j))] [] (encC (setB S B) ++ T) 0 0 := by
    intro f
    refine down (fun B y => ?_) (fun j hj ih B y => ?_)
    · exact run_sound okX7_mean kNme 200 (brT (Int32.le_refl _) (kH (c_inLowestTerms _ _ _) (by decide) ⟨rfl, lqBL B⟩))
    · refine run_sound okX7_mean kNme 200 (brF (ge_no (n := n) rfl hj (by omega)) ⟨5, _, by decide, K_stranger (h.setB B) _ _, ?_⟩)
      rintro hp' w ⟨⟨B', rfl⟩, v, rfl⟩
      rw [← nI_1 j] at ih
      exact ih B' _
  exact key _ 0 (Nat.zero_le _) (getB S) _
set_option maxRecDepth 100000 in
theorem K_judge (h : KC S) (s w : Int32) : Ctr l 4 X sgX7_judge [.ref 0, .int s, .int w] (encC S ++ T) (kqQ S T) := by
  have hL := h.len
  refine Ctr.of okX7_judge rfl (Nat.le_of_ble_eq_true rfl) (run_sound okX7_judge (fun i => Nat.beq i 32) 200 ?_)
  refine kH (c_isBelow s 4) (by decide) (brB' (fun _ => lq h) (fun _ => kH (c_isMissing hL s) (by decide) (brB' (fun _ => kH (c_at (xs := S.2 23) rfl (hL.lt 23)) (by decide) ?_) (fun _ => lq h))))
  refine And.intro (by decide) (br (fun _ => kH (c_isWorld w) (by decide) (brB' (fun _ => lq h) (fun _ => ?_))) (fun _ => lq h))
  have key : ∀ z : Int32, WP l (rmD 4 0 0) X sgX7_judge kX7_judge (kqQ S T) 32 [some (.ref 0), some (.int s), some (.int w), some (.int z), some (.int (nI 0))] [] (encC S ++ T) 0 0 := by
    intro z
    by_cases e : z / Int32.ofInt 3 ≤ 0
    · exact run_sound okX7_judge (fun i => Nat.beq i 32) 200 (And.intro (by decide) (brT e (lq h)))
    · obtain ⟨m, hm, em⟩ := i32_nat e
      have lp : ∀ k, k ≤ m → WP l (rmD 4 0 0) X sgX7_judge kX7_judge (kqQ S T) 32 [some (.ref 0), some (.int s), some (.int w), some (.int z), some (.int (nI k))] [] (encC S ++ T) 0 0 := by
        refine down ?_ (fun k hk ih => ?_)
        · exact run_sound okX7_judge (fun i => Nat.beq i 32) 200 (And.intro (by decide) (brT (nle em) (lq h)))
        · refine run_sound okX7_judge (fun i => Nat.beq i 32) 200 (And.intro (by decide) (brF (nge em hk hm) ⟨3, _, by decide, c_rowFits hL _ _ _, ?_⟩))
          rintro hp' w' ⟨rfl, v, rfl⟩
          rw [← nI_1 k] at ih
          exact br (fun _ => lq h) (fun _ => ih)
      exact lp 0 (Nat.zero_le _)
  exact key _
end KCALL5
