/-! QUESTIONS ALIKE: judge, habit -/
section Q4
variable {l : Launch} {X : List (List Int32)} {S : CS} {T : AH} {M : MS} {nt ns nk ta : Nat}
theorem row_al (h : RInv M nt ns nk ta) (k : KR S M) {a i w : Nat} (ha : a < 4) (hi : i < 14) (hw : w < 32) : kjrP S (nI a) (nI i) (nI w) ↔ irP M nt ns (40 * a + 3 * i) (nI i) (nI w) := by
  have ki := KR.ki h k
  have rs := k.rs
  have h5 := h.1.2.2.2.1.2
  have h6 := h.1.2.2.1.2.2
  have e0 : rdI S (nI a) (Int32.ofInt 3 * nI i) = ceA M (40 * a + 3 * i) := by
    unfold rdI ceA
    rw [show nI a * Int32.ofInt 40 = nI (a * 40) from nI_mul a 40, show Int32.ofInt 3 * nI i = nI (3 * i) from nI_mul 3 i, nI_add, atF_n (by omega), rs.2.2, Nat.mul_comm a 40]
  have e1 : rdI S (nI a) (Int32.ofInt 3 * nI i + Int32.ofInt 1) = ceA M (40 * a + 3 * i + 1) := by
    unfold rdI ceA
    rw [show nI a * Int32.ofInt 40 = nI (a * 40) from nI_mul a 40, show Int32.ofInt 3 * nI i = nI (3 * i) from nI_mul 3 i, show nI (3 * i) + Int32.ofInt 1 = nI (3 * i + 1) from nI_add _ 1, nI_add, atF_n (by omega), rs.2.2, Nat.mul_comm a 40, Nat.add_assoc]
  have e2 : rdI S (nI a) (Int32.ofInt 3 * nI i + Int32.ofInt 2) = ceA M (40 * a + 3 * i + 2) := by
    unfold rdI ceA
    rw [show nI a * Int32.ofInt 40 = nI (a * 40) from nI_mul a 40, show Int32.ofInt 3 * nI i = nI (3 * i) from nI_mul 3 i, show nI (3 * i) + Int32.ofInt 2 = nI (3 * i + 2) from nI_add _ 2, nI_add, atF_n (by omega), rs.2.2, Nat.mul_comm a 40, Nat.add_assoc]
  unfold kjrP irP
  rw [e0, e1, e2, ki.1.2.2.2.1, ki.1.2.1]
  have f0 := xp_iff (n := ns) (by omega) (s := ceA M (40 * a + 3 * i))
  have f1 := xp_iff (n := nt) (by omega) (s := ceA M (40 * a + 3 * i + 1))
  have f2 := x2_iff (u := ceA M (40 * a + 3 * i + 2))
  have fin : tP ns (ceA M (40 * a + 3 * i)) → tP nt (ceA M (40 * a + 3 * i + 1)) → p1P (ceA M (40 * a + 3 * i + 2)) → (bitF (nextF S (ceA M (40 * a + 3 * i)) (ceA M (40 * a + 3 * i + 1)) (ceA M (40 * a + 3 * i + 2)) (nI i)) (nI w) = 1 ↔ hsP (fitT M (ceA M (40 * a + 3 * i)).toNatClampNeg (ceA M (40 * a + 3 * i + 1)).toNatClampNeg (ceA M (40 * a + 3 * i + 2)).toNatClampNeg (nI i)) (nI w)) := by
    intro g0 g1 g2
    obtain ⟨x, hx, ex⟩ := inN (by omega) g0
    obtain ⟨y, hy, ey⟩ := inN (by omega) g1
    obtain ⟨u, hu, eu⟩ := inC (c := 1) (n := 1) (by decide) (by decide) g2
    rw [ex, ey, eu, nI_clamp (by omega), nI_clamp (by omega), nI_clamp (by omega)]
    exact (next_al h k (by omega) hy (by omega) (nI i)).has hw
  constructor
  · rintro ⟨g0, g1, g2, g3⟩
    exact ⟨f0.mp g0, f1.mp g1, f2.mp g2, (fin (f0.mp g0) (f1.mp g1) (f2.mp g2)).mp g3⟩
  · rintro ⟨g0, g1, g2, g3⟩
    exact ⟨f0.mpr g0, f1.mpr g1, f2.mpr g2, (fin g0 g1 g2).mpr g3⟩
set_option maxRecDepth 100000 in
theorem P_judge (h : RInv M nt ns nk ta) (k : KR S M) (s w : Int32) : Ans l 4 X sgX7_judge [.ref 0, .int s, .int w] (mk S M) (juG M nt ns s w) := by
  have hL := k.cl
  have rs := k.rs
  refine Ctr.of okX7_judge rfl (Nat.le_of_ble_eq_true rfl) (run_sound okX7_judge (fun i => Nat.beq i 32) 200 ?_)
  refine kH (k_B s 4 3 (by decide)) (by decide) (brB' (fun q => ⟨rfl, some_int (if_neg q).symm⟩) (fun q => ?_))
  obtain ⟨a, ha, rfl⟩ := in03n q
  obtain ⟨-, z, hz, ez⟩ := h.2.2.1 a ha
  have e : juG M nt ns (nI a) w = if (M.2.1 17).getD a 0 = -1 then -11 else if z % 3 = 0 then (if wdP w then juF M nt ns a w (z / 3) 0 else -5) else -2 := by
    unfold juG siN
    rw [if_pos q, nI_clamp (by omega), ez, nI_clamp (by omega)]
  rw [e]
  have e22 : atF (S.2 22) (nI a) = (M.2.1 17).getD a 0 := by rw [rs.1, atF_n (by omega)]
  have e23 : atF (S.2 23) (nI a) = nI z := by rw [rs.2.1, atF_n (by omega)]; exact ez
  refine kH (c_isMissing hL _) (by decide) (brB' (fun q2 => ?_) (fun q2 => ⟨rfl, some_int (if_pos (e22.symm.trans q2)).symm⟩))
  rw [if_neg (fun y => q2 (e22.trans y))]
  have ca := c_at (l := l) (X := X) (hp := mk S M) (q := 23) (xs := S.2 23) (i := nI a) rfl (hL.lt 23)
  rw [e23] at ca
  refine kH ca (by decide) ?_
  have er : nI z - nI z / Int32.ofInt 3 * Int32.ofInt 3 = nI (z % 3) := nI_rem (b := 3) (by omega) (by decide) (by decide)
  have ed : nI z / Int32.ofInt 3 = nI (z / 3) := nI_div (b := 3) (by omega) (by decide) (by decide)
  refine And.intro (by decide) (br (fun y => ?_) (fun y => ?_))
  · have y : nI z - nI z / Int32.ofInt 3 * Int32.ofInt 3 = 0 := y
    rw [er] at y
    have y3 : z % 3 = 0 := nI_inj (b := 0) (by omega) (by decide) y
    rw [if_pos y3]
    refine kH (c_isWorld w) (by decide) (brB' (fun q3 => ⟨rfl, some_int (if_neg (fun y => q3 (x32_iff.mpr y))).symm⟩) (fun q3 => ?_))
    have q4 : wdP w := x32_iff.mp q3
    rw [if_pos q4]
    obtain ⟨b, hb, rfl⟩ := inC (c := 31) (n := 31) (by decide) (by decide) q4
    obtain ⟨W, hW⟩ : ∃ W, juF M nt ns a (nI b) (z / 3) 0 = W := ⟨_, rfl⟩
    rw [hW]
    have key : ∀ j, j ≤ z / 3 → juF M nt ns a (nI b) (z / 3 - j) j = W → WP l (rmD 4 0 0) X sgX7_judge kX7_judge (fun h w => h = mk S M ∧ w = some (.int W)) 32 [some (.ref 0), some (.int (nI a)), some (.int (nI b)), some (.int (nI z)), some (.int (nI j))] [] (mk S M) 0 0 := by
      refine down (fun hW => ?_) (fun j hj ih hW => ?_)
      · rw [Nat.sub_self] at hW
        exact run_sound okX7_judge (fun i => Nat.beq i 32) 200 (And.intro (by decide) (brT (nle ed) ⟨rfl, some_int hW⟩))
      · rw [show z / 3 - j = (z / 3 - (j + 1)) + 1 by omega, juF] at hW
        refine run_sound okX7_judge (fun i => Nat.beq i 32) 200 (And.intro (by decide) (brF (nge ed hj (by omega)) ⟨3, _, by decide, P_rowFits hL _ _ _, ?_⟩))
        have er := row_al h k ha (show j < 14 by omega) (show b < 32 by omega)
        rintro hp' w' ⟨rfl, x, rfl, hx⟩
        rw [← nI_1 j] at ih
        refine br (fun x0 => ?_) (fun x0 => ?_)
        · have x0 : x = 0 := x0
          have np : ¬ kjrP S (nI a) (nI j) (nI b) := by
            rcases hx with ⟨-, y⟩ | ⟨y, -⟩
            · exact y
            · rw [x0] at y; exact absurd y (by decide)
          rw [if_neg (fun y => np (er.mpr y))] at hW
          exact ⟨rfl, some_int hW⟩
        · have x0 : ¬ x = 0 := x0
          have np : kjrP S (nI a) (nI j) (nI b) := by
            rcases hx with ⟨y, -⟩ | ⟨-, y⟩
            · exact absurd y x0
            · exact y
          rw [if_pos (er.mp np)] at hW
          exact ih hW
    exact key 0 (Nat.zero_le _) hW
  · have y : ¬ nI z - nI z / Int32.ofInt 3 * Int32.ofInt 3 = 0 := y
    rw [er] at y
    have y3 : ¬ z % 3 = 0 := fun g => y (by rw [g]; rfl)
    rw [if_neg y3]
    exact ⟨rfl, rfl⟩
theorem S_judge (r : REL S M) (s w : Int32) : StE l X S M 4 sgX7_judge [.ref 0, .int s, .int w] 5 sgX8_judge [.ref 27, .int s, .int w] := by
  obtain ⟨nt, ns, nk, ta, h⟩ := id r.1
  exact ste r (an_B (P_judge h r.2 s w)) (fun B => g_judge h.1 h.2.2.1 s w)
/-! habit -/
def khaF (S : CS) (s w : Int32) : Nat → Int32 × Int32
  | 0 => (0, 0)
  | k + 1 => if partF S (nI k) 0 = s then (if bitF (firstF S (nI k)) w = bitF (secondF S (nI k)) w then (khaF S s w k).1 else (khaF S s w k).1 + 1, if bitF (firstF S (nI k)) w = 1 ∧ bitF (secondF S (nI k)) w = 0 then (khaF S s w k).2 + 1 else (khaF S s w k).2) else khaF S s w k
def khbG (S : CS) (nk : Nat) (s w part : Int32) : Int64 := if kxP (S.1 133) s ∧ kxP 32 w ∧ kxP 2 part then lowF (khaF S s w nk).2 (khaF S s w nk).1 part else -4611686018427387904
set_option maxRecDepth 100000 in
theorem P_habit (hI : CInv S nt ns nk) (s w part : Int32) : AnsL l 5 X sgX7_habit [.ref 0, .int s, .int w, .int part] (encC S ++ T) (khbG S nk s w part) := by
  have hL := hI.1
  have em : S.1 134 = nI nk := hI.2.2.2.2.2.1
  have hm : nk ≤ 12 := hI.2.2.2.2.2.2
  refine Ctr.of okX7_habit rfl (Nat.le_of_ble_eq_true rfl) (run_sound okX7_habit cNhb 200 ?_)
  have t11 : ¬ (kxP (S.1 133) s ∧ kxP 32 w ∧ kxP 2 part) → WP l (rmD 5 0 0) X sgX7_habit kX7_habit (kRL S T (khbG S nk s w part)) 11 [some (.ref 0), some (.int s), some (.int w), some (.int part), none, none, none, none, none] [] (encC S ++ T) 0 0 := fun q => run_sound okX7_habit noCut 200 ⟨rfl, rfl, some_long (if_neg q).symm⟩
  refine kH (c_isSpeaker s) (by decide) (brB' (fun q => t11 (fun z => q z.1)) (fun q1 => kH (c_isWorld w) (by decide) (brB' (fun q => t11 (fun z => q z.2.1)) (fun q2 => kH (c_isBelow part 2) (by decide) (brB' (fun q => t11 (fun z => q z.2.2)) (fun q3 => ?_))))))
  have e : khbG S nk s w part = lowF (khaF S s w nk).2 (khaF S s w nk).1 part := if_pos ⟨q1, q2, q3⟩
  rw [e]
  have key : ∀ k, k ≤ nk → ∀ u v, WP l (rmD 5 0 0) X sgX7_habit kX7_habit (kRL S T (lowF (khaF S s w nk).2 (khaF S s w nk).1 part)) 19 [some (.ref 0), some (.int s), some (.int w), some (.int part), some (.int (khaF S s w k).1), some (.int (khaF S s w k).2), some (.int (nI k)), u, v] [] (encC S ++ T) 0 0 := by
    refine down (fun u v => ?_) (fun k hk ih u v => ?_)
    · exact run_sound okX7_habit cNhb 200 (brT (nle em) (kH (c_inLowestTerms _ _ _) (by decide) ⟨rfl, rfl, rfl⟩))
    · have t53 : ∀ (x y : Int32) u v, (x, y) = khaF S s w (k + 1) → WP l (rmD 5 0 0) X sgX7_habit kX7_habit (kRL S T (lowF (khaF S s w nk).2 (khaF S s w nk).1 part)) 53 [some (.ref 0), some (.int s), some (.int w), some (.int part), some (.int x), some (.int y), some (.int (nI k)), u, v] [] (encC S ++ T) 0 0 := by
        intro x y u v hx
        have ih := ih u v
        rw [← hx, ← nI_1 k] at ih
        exact run_sound okX7_habit cNhb 200 ih
      have t47 : ∀ (x : Int32), partF S (nI k) 0 = s → x = (if bitF (firstF S (nI k)) w = bitF (secondF S (nI k)) w then (khaF S s w k).1 else (khaF S s w k).1 + 1) → WP l (rmD 5 0 0) X sgX7_habit kX7_habit (kRL S T (lowF (khaF S s w nk).2 (khaF S s w nk).1 part)) 47 [some (.ref 0), some (.int s), some (.int w), some (.int part), some (.int x), some (.int (khaF S s w k).2), some (.int (nI k)), some (.int (bitF (firstF S (nI k)) w)), some (.int (bitF (secondF S (nI k)) w))] [] (encC S ++ T) 0 0 := by
        intro x hp hx
        refine run_sound okX7_habit cNhb 200 (br (fun y1 => br (fun y2 => t53 _ _ _ _ ?_) (fun y2 => t53 _ _ _ _ ?_)) (fun y1 => t53 _ _ _ _ ?_))
        · have y1 : bitF (firstF S (nI k)) w = 1 := y1
          have y2 : bitF (secondF S (nI k)) w = 0 := y2
          rw [khaF, if_pos hp, ← hx, if_pos ⟨y1, y2⟩]; rfl
        · rw [khaF, if_pos hp, ← hx, if_neg (fun z => y2 z.2)]
        · rw [khaF, if_pos hp, ← hx, if_neg (fun z => y1 z.1)]
      refine run_sound okX7_habit cNhb 200 (brF (nge em hk (by omega)) (kH (c_sayingPart hL _ _) (by decide) (br (fun hp => kH (c_firstSaid hL _) (by decide) (kH (c_bit _ _) (by decide) (kH (c_secondSaid hL _) (by decide) (kH (c_bit _ _) (by decide) (br (fun y => t47 _ hp ?_) (fun y => t47 _ hp ?_)))))) (fun hp => t53 _ _ _ _ ?_))))
      · exact (if_pos y).symm
      · exact (if_neg y).symm
      · have hp : ¬ partF S (nI k) 0 = s := hp
        rw [khaF, if_neg hp]
  exact key 0 (Nat.zero_le _) _ _
theorem bit_bI {a : Int32} {A : Int64} (hz : Zx a A) {w : Nat} (hw : w < 32) : bitF a (nI w) = bI (hsP A (nI w)) := by
  have e := hz.has hw
  by_cases q : hsP A (nI w)
  · rw [bI_t q]; exact e.mpr q
  · rw [bI_f q]; exact (bitF_z _ _).mpr (fun y => q (e.mp y))
theorem hab_al (h : RInv M nt ns nk ta) (k : KR S M) {s w : Nat} (hs : s < 5) (hw : w < 32) : ∀ m, m ≤ nk → khaF S (nI s) (nI w) m = (nI (haT M s (nI w) m).2, nI (haT M s (nI w) m).1)
  | 0, _ => rfl
  | m + 1, hm => by
    have ih := hab_al h k hs hw m (by omega)
    obtain ⟨p0, -, -⟩ := part_al h k (show m < nk by omega)
    obtain ⟨-, -, -, b0, -, -⟩ := tk_ok h.1 (show m < nk by omega)
    rw [khaF, haT, p0, ih]
    by_cases q : tk M m 0 = s
    · rw [if_pos (by rw [q])]
      obtain ⟨z1, z2⟩ := pq_al h k (show m < nk by omega)
      rw [q] at z1 z2
      rw [bit_bI z1 hw, bit_bI z2 hw]
      by_cases y : bI (hpP M s (nI w) m) = bI (hqP M s (nI w) m)
      · have n1 : ¬ hcP M s (nI w) m := fun z => z.2 y
        have n2 : ¬ (bI (hpP M s (nI w) m) = 1 ∧ bI (hqP M s (nI w) m) = 0) := fun z => by
          rw [y, z.2] at z
          exact absurd z.1 (by decide)
        rw [if_pos y, if_neg n2, if_neg n1, if_neg (fun z => n1 z.1)]
        rfl
      · have n1 : hcP M s (nI w) m := ⟨q, y⟩
        rw [if_neg y, if_pos n1]
        by_cases y2 : hpP M s (nI w) m
        · have y3 : ¬ hqP M s (nI w) m := fun z => y (by rw [bI_t y2, bI_t z])
          rw [if_pos ⟨bI_t y2, bI_f y3⟩, if_pos ⟨n1, y2⟩, nI_1, nI_1]
        · rw [if_neg (fun z => by rw [bI_f y2] at z; exact absurd z.1 (by decide)), if_neg (fun z => y2 z.2), nI_1]
          rfl
    · have n1 : ¬ hcP M s (nI w) m := fun z => q z.1
      rw [if_neg (fun z => q (nI_inj (by omega) (by omega) z)), if_neg n1, if_neg (fun z => n1 z.1)]
      rfl
theorem haT_lex (M : MS) (s : Nat) (w : Int32) : ∀ m, (haT M s w m).1 ≤ (haT M s w m).2 ∧ (haT M s w m).2 ≤ m
  | 0 => ⟨Nat.le_refl _, Nat.le_refl _⟩
  | m + 1 => by
    obtain ⟨h1, h2⟩ := haT_lex M s w m
    rw [haT]
    by_cases y : hcP M s w m
    · rw [if_pos y]
      by_cases y2 : hpP M s w m
      · rw [if_pos ⟨y, y2⟩]
        exact ⟨by show _ + 1 ≤ _ + 1; omega, by show _ + 1 ≤ _ + 1; omega⟩
      · rw [if_neg (fun z => y2 z.2)]
        exact ⟨by show _ + 0 ≤ _ + 1; omega, by show _ + 1 ≤ _ + 1; omega⟩
    · rw [if_neg y, if_neg (fun z => y z.1)]
      exact ⟨by show _ + 0 ≤ _ + 0; omega, by show _ + 0 ≤ _ + 1; omega⟩
theorem low_al : ∀ a : Fin 61, ∀ b : Fin 13, ¬ b.val = 0 → ∀ part : Fin 2, lowF (nI a.val) (nI b.val) (nI part.val) = loG (Int64.ofNat a.val) (Int64.ofNat b.val) (nI part.val) := by decide +kernel
theorem S_habit (r : REL S M) (s w part : Int32) : StEL l X S M 5 sgX7_habit [.ref 0, .int s, .int w, .int part] 5 sgX8_habit [.ref 27, .int s, .int w, .int part] := by
  obtain ⟨nt, ns, nk, ta, h⟩ := id r.1
  have ki := KR.ki h r.2
  have c := P_habit (l := l) (X := X) (T := encM M) ki.1 s w part
  have h5 := h.1.2.2.2.1.2
  have h12 := h.1.2.2.2.2.1.2
  have e : khbG S nk s w part = hbG M ns nk s w part := by
    unfold khbG hbG
    rw [ki.1.2.2.2.1]
    by_cases q : tP ns s ∧ wdP w ∧ p1P part
    · rw [if_pos ⟨(xp_iff (by omega)).mpr q.1, x32_iff.mpr q.2.1, x2_iff.mpr q.2.2⟩, if_pos q]
      obtain ⟨a, ha, rfl⟩ := inN (by omega) q.1
      obtain ⟨b, hb, rfl⟩ := inC (c := 31) (n := 31) (by decide) (by decide) q.2.1
      obtain ⟨d, hd, rfl⟩ := inC (c := 1) (n := 1) (by decide) (by decide) q.2.2
      rw [nI_clamp (by omega), hab_al h r.2 (by omega) (by omega) nk (Nat.le_refl _)]
      obtain ⟨l1, l2⟩ := haT_lex M a (nI b) nk
      generalize (haT M a (nI b) nk).1 = f at l1 ⊢
      generalize (haT M a (nI b) nk).2 = g at l1 l2 ⊢
      by_cases g0 : g = 0
      · subst g0
        rw [if_pos (show Int64.ofNat 0 = 0 from rfl)]
        exact if_pos (Or.inl rfl)
      · have g1 : ¬ Int64.ofNat g = 0 := fun z => by
          have a : ∀ j : Fin 13, Int64.ofNat j.val = 0 → j.val = 0 := by decide +kernel
          exact g0 (a ⟨g, by omega⟩ z)
        rw [if_neg g1]
        exact low_al ⟨f, by omega⟩ ⟨g, by omega⟩ g0 ⟨d, by omega⟩
    · rw [if_neg (fun z => q ⟨(xp_iff (by omega)).mp z.1, x32_iff.mp z.2.1, x2_iff.mp z.2.2⟩), if_neg q]
  rw [e] at c
  exact steL r (an_BL c) (fun B => g_habit h.1 s w part)
end Q4
