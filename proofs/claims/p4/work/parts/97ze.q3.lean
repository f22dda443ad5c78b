/-! QUESTIONS ALIKE: behind, many, judge -/
section Q3
variable {l : Launch} {X : List (List Int32)} {S : CS} {T : AH} {M : MS} {nt ns nk ta : Nat}
theorem lead_al {a : Int32} {A : Int64} (hz : Zx a A) : ∀ m w, w + m ≤ 32 → wnF a 0 m w 0 = leF A m w
  | 0, _, _ => rfl
  | m + 1, w, hw => by
    rw [wnF, leF, lead_al hz m (w + 1) (by omega)]
    have e := hz.has (show w < 32 by omega)
    by_cases q : bitF a (nI w) = 1
    · rw [if_pos q, if_pos rfl, if_pos (e.mp q)]
    · rw [if_neg q, if_neg (fun z => q (e.mpr z))]
theorem so_bit : ∀ x : Fin 5, ∀ w : Fin 32, (atF soInL (nI x.val)).toBitVec.getLsbD w.val = btx (nI w.val) x.val := by decide +kernel
theorem b31 : ∀ i : Fin 32, btx 31 i.val = decide (i.val < 5) := by decide +kernel
theorem bnot : ∀ w : Fin 32, ∀ i : Fin 5, btx (31 &&& (nI w.val ^^^ -1)) i.val = !btx (nI w.val) i.val := by decide +kernel
theorem bhi : ∀ w : Fin 32, ∀ i : Fin 32, 5 ≤ i.val → btx (31 &&& (nI w.val ^^^ -1)) i.val = false ∧ btx (nI w.val) i.val = false := by decide +kernel
theorem alF_bit (A : Int64) {i : Nat} (hi : i < 32) : ∀ n, n ≤ 32 → (btx (alF A n) i = true ↔ ¬ A = 0 ∧ i < 5 ∧ ∀ w, w < n → hsP A (nI w) → btx (nI w) i = true)
  | 0, _ => by
    rw [alF]
    by_cases q : A = 0
    · rw [if_pos q, b_0]
      exact ⟨fun z => (by cases z), fun z => absurd q z.1⟩
    · rw [if_neg q, b31 ⟨i, hi⟩, decide_eq_true_iff]
      exact ⟨fun z => ⟨q, z, fun w hw => by omega⟩, fun z => z.2.1⟩
  | n + 1, hn => by
    rw [alF, b_and, Bool.and_eq_true, alF_bit A hi n (by omega)]
    constructor
    · rintro ⟨⟨h1, h2, h3⟩, h4⟩
      refine ⟨h1, h2, fun w hw hs => ?_⟩
      by_cases e : w = n
      · subst e
        rw [if_pos hs] at h4
        exact h4
      · exact h3 w (by omega) hs
    · rintro ⟨h1, h2, h3⟩
      refine ⟨⟨h1, h2, fun w hw hs => h3 w (by omega) hs⟩, ?_⟩
      by_cases q : hsP A (nI n)
      · rw [if_pos q]
        exact h3 n (by omega) q
      · rw [if_neg q, b31 ⟨i, hi⟩]
        exact decide_eq_true h2
theorem noF_bit (A : Int64) {i : Nat} (hi : i < 32) : ∀ n, n ≤ 32 → (btx (noF A n) i = true ↔ ¬ A = 0 ∧ i < 5 ∧ ∀ w, w < n → hsP A (nI w) → btx (nI w) i = false)
  | 0, _ => by
    rw [noF]
    by_cases q : A = 0
    · rw [if_pos q, b_0]
      exact ⟨fun z => (by cases z), fun z => absurd q z.1⟩
    · rw [if_neg q, b31 ⟨i, hi⟩, decide_eq_true_iff]
      exact ⟨fun z => ⟨q, z, fun w hw => by omega⟩, fun z => z.2.1⟩
  | n + 1, hn => by
    rw [noF, b_and, Bool.and_eq_true, noF_bit A hi n (by omega)]
    constructor
    · rintro ⟨⟨h1, h2, h3⟩, h4⟩
      refine ⟨h1, h2, fun w hw hs => ?_⟩
      by_cases e : w = n
      · subst e
        rw [if_pos hs, bnot ⟨w, by omega⟩ ⟨i, h2⟩] at h4
        exact (Bool.not_eq_true' _).mp h4
      · exact h3 w (by omega) hs
    · rintro ⟨h1, h2, h3⟩
      refine ⟨⟨h1, h2, fun w hw hs => h3 w (by omega) hs⟩, ?_⟩
      by_cases q : hsP A (nI n)
      · rw [if_pos q, bnot ⟨n, by omega⟩ ⟨i, h2⟩]
        exact (Bool.not_eq_true' _).mpr (h3 n (by omega) q)
      · rw [if_neg q, b31 ⟨i, hi⟩]
        exact decide_eq_true h2
/-- a thing's being so in all, and in none -/
theorem sub_iff {a : Int32} {A : Int64} (hz : Zx a A) {x : Nat} (hx : x < 5) : (a &&& atF soInL (nI x) = a ↔ ∀ w, w < 32 → hsP A (nI w) → btx (nI w) x = true) ∧ (a &&& atF soInL (nI x) = 0 ↔ ∀ w, w < 32 → hsP A (nI w) → btx (nI w) x = false) := by
  constructor
  · constructor
    · intro h w hw hs
      have h1 := (bitF_get a hw).mp ((hz.has hw).mpr hs)
      rw [← so_bit ⟨x, hx⟩ ⟨w, hw⟩]
      have h2 := h1
      rw [← h, Int32.toBitVec_and, BitVec.getLsbD_and, Bool.and_eq_true] at h2
      exact h2.2
    · intro h
      apply b_ext
      intro w hw
      rw [b_and]
      by_cases q : hsP A (nI w)
      · have h1 := h w hw q
        rw [← so_bit ⟨x, hx⟩ ⟨w, hw⟩] at h1
        have h1 : btx (atF soInL (nI x)) w = true := h1
        rw [h1, Bool.and_true]
      · have h1 : btx a w = false := by
          cases e : btx a w with
          | false => rfl
          | true => exact absurd ((hz.has hw).mp ((bitF_get a hw).mpr e)) q
        rw [h1, Bool.false_and]
  · constructor
    · intro h w hw hs
      have h1 := (bitF_get a hw).mp ((hz.has hw).mpr hs)
      rw [← so_bit ⟨x, hx⟩ ⟨w, hw⟩]
      have h2 : btx (a &&& atF soInL (nI x)) w = false := by rw [h, b_0]
      rw [b_and, show btx a w = true from h1, Bool.true_and] at h2
      exact h2
    · intro h
      apply b_ext
      intro w hw
      rw [b_and, b_0]
      by_cases q : hsP A (nI w)
      · have h1 := h w hw q
        rw [← so_bit ⟨x, hx⟩ ⟨w, hw⟩] at h1
        have h1 : btx (atF soInL (nI x)) w = false := h1
        rw [h1, Bool.and_false]
      · have h1 : btx a w = false := by
          cases e : btx a w with
          | false => rfl
          | true => exact absurd ((hz.has hw).mp ((bitF_get a hw).mpr e)) q
        rw [h1, Bool.false_and]
theorem one_bt : ∀ x : Fin 5, ∀ i : Fin 32, btx ((1 : Int32) <<< (nI x.val &&& 31)) i.val = decide (i.val = x.val) := by decide +kernel
theorem sure_iff {a : Int32} {x : Nat} (c : Int32) (hc : c = 1 ∨ c = 0) : (¬ sureF (nI x) a = 0 ∧ bI (¬ a &&& atF soInL (nI x) = 0) = c) ↔ ¬ a = 0 ∧ (if c = 1 then a &&& atF soInL (nI x) = a else a &&& atF soInL (nI x) = 0) := by
  unfold sureF
  by_cases h0 : a = 0
  · rw [if_pos h0]
    exact ⟨fun z => absurd rfl z.1, fun z => absurd h0 z.1⟩
  · rw [if_neg h0]
    generalize a &&& atF soInL (nI x) = b
    rcases hc with rfl | rfl
    · rw [if_pos rfl]
      by_cases h1 : b = a
      · subst h1
        rw [if_pos rfl, bI_t h0]
        exact ⟨fun _ => ⟨h0, rfl⟩, fun _ => ⟨by decide, rfl⟩⟩
      · rw [if_neg h1]
        by_cases h2 : b = 0
        · rw [if_pos h2, bI_f (fun z => z h2)]
          exact ⟨fun z => absurd z.2 (by decide), fun z => absurd z.2 h1⟩
        · rw [if_neg h2]
          exact ⟨fun z => absurd rfl z.1, fun z => absurd z.2 h1⟩
    · rw [if_neg (show ¬ (0 : Int32) = 1 by decide)]
      by_cases h2 : b = 0
      · rw [bI_f (fun z => z h2)]
        refine ⟨fun _ => ⟨h0, h2⟩, fun _ => ⟨?_, rfl⟩⟩
        by_cases h1 : b = a
        · rw [if_pos h1]; decide
        · rw [if_neg h1, if_pos h2]; decide
      · rw [bI_t h2]
        exact ⟨fun z => absurd z.2 (by decide), fun z => absurd z.2 h2⟩
theorem thF_bit (a c : Int32) (hc : c = 1 ∨ c = 0) {i : Nat} (hi : i < 32) : ∀ n, n ≤ 5 → (btx (thF a c n) i = true ↔ i < n ∧ ¬ a = 0 ∧ (if c = 1 then a &&& atF soInL (nI i) = a else a &&& atF soInL (nI i) = 0))
  | 0, _ => by
    rw [thF, b_0]
    exact ⟨fun z => (by cases z), fun z => by omega⟩
  | n + 1, hn => by
    have ih := thF_bit a c hc hi n (by omega)
    have e := sure_iff (a := a) (x := n) c hc
    have rest : ∀ z : Prop, (btx (thF a c n) i = true ∨ (i = n ∧ z)) ↔ ((i < n ∧ ¬ a = 0 ∧ (if c = 1 then a &&& atF soInL (nI i) = a else a &&& atF soInL (nI i) = 0)) ∨ (i = n ∧ z)) := fun z => or_congr ih Iff.rfl
    rw [thF]
    by_cases q1 : sureF (nI n) a = 0
    · rw [if_pos q1, ih]
      constructor
      · rintro ⟨h1, h2⟩
        exact ⟨by omega, h2⟩
      · rintro ⟨h1, h2⟩
        by_cases en : i = n
        · subst en
          exact absurd q1 (e.mpr h2).1
        · exact ⟨by omega, h2⟩
    · rw [if_neg q1]
      by_cases q2 : bI (¬ a &&& atF soInL (nI n) = 0) = c
      · rw [if_pos q2, b_or, Bool.or_eq_true, ih, one_bt ⟨n, by omega⟩ ⟨i, hi⟩, decide_eq_true_iff]
        constructor
        · rintro (⟨h1, h2⟩ | h1)
          · exact ⟨by omega, h2⟩
          · have h1 : i = n := h1
            subst h1
            exact ⟨by omega, e.mp ⟨q1, q2⟩⟩
        · rintro ⟨h1, h2⟩
          by_cases en : i = n
          · exact Or.inr en
          · exact Or.inl ⟨by omega, h2⟩
      · rw [if_neg q2, ih]
        constructor
        · rintro ⟨h1, h2⟩
          exact ⟨by omega, h2⟩
        · rintro ⟨h1, h2⟩
          by_cases en : i = n
          · subst en
            exact absurd (e.mpr h2).2 q2
          · exact ⟨by omega, h2⟩
theorem th1_al {a : Int32} {A : Int64} (hz : Zx a A) : thF a 1 5 = alF A 32 := by
  apply b_ext
  intro i hi
  rw [Bool.eq_iff_iff, thF_bit a 1 (Or.inl rfl) hi 5 (Nat.le_refl _), alF_bit A hi 32 (Nat.le_refl _), if_pos rfl]
  constructor
  · rintro ⟨h1, h2, h3⟩
    exact ⟨fun z => h2 (hz.zero.mpr z), h1, (sub_iff hz h1).1.mp h3⟩
  · rintro ⟨h1, h2, h3⟩
    exact ⟨h2, fun z => h1 (hz.zero.mp z), (sub_iff hz h2).1.mpr h3⟩
theorem th0_al {a : Int32} {A : Int64} (hz : Zx a A) : thF a 0 5 = noF A 32 := by
  apply b_ext
  intro i hi
  rw [Bool.eq_iff_iff, thF_bit a 0 (Or.inr rfl) hi 5 (Nat.le_refl _), noF_bit A hi 32 (Nat.le_refl _), if_neg (by decide)]
  constructor
  · rintro ⟨h1, h2, h3⟩
    exact ⟨fun z => h2 (hz.zero.mpr z), h1, (sub_iff hz h1).2.mp h3⟩
  · rintro ⟨h1, h2, h3⟩
    exact ⟨h2, fun z => h1 (hz.zero.mp z), (sub_iff hz h2).2.mpr h3⟩
def kbeX (S : CS) (n : Nat) (what : Int32) : Int32 := if what = 0 then bcF (fitF S n) else if what = 1 then thF (fitF S n) 1 5 else if what = 2 then thF (fitF S n) 0 5 else if what = 3 then wnF (fitF S n) 0 32 0 0 else -7
def kbeG (S : CS) (nk : Nat) (n what : Int32) : Int32 := if (0 : Int32) ≤ n ∧ n ≤ nI nk then kbeX S n.toNatClampNeg what else -5
set_option maxRecDepth 100000 in
theorem P_behind (hX : X[0]? = some soInL) (hI : CInv S nt ns nk) (n what : Int32) : Ans l 6 X sgX7_behind [.ref 0, .int n, .int what] (encC S ++ T) (kbeG S nk n what) := by
  have hL := hI.1
  have em : S.1 134 = nI nk := hI.2.2.2.2.2.1
  have hm : nk ≤ 12 := hI.2.2.2.2.2.2
  refine Ctr.of okX7_behind rfl (Nat.le_of_ble_eq_true rfl) (run_sound okX7_behind noCut 200 ?_)
  refine br (fun q => ⟨rfl, some_int (if_neg (fun z => absurd q (Int32.not_lt.mpr z.1))).symm⟩) (fun h1 => br (fun h2 => ?_) (fun q => ⟨rfl, some_int (if_neg (fun z => q (by rw [em]; exact z.2))).symm⟩))
  have h2 : n ≤ S.1 134 := h2
  rw [em] at h2
  have yes : (0 : Int32) ≤ n ∧ n ≤ nI nk := ⟨Int32.not_lt.mp h1, h2⟩
  obtain ⟨k, hk, rfl⟩ := p3_or (c := nI nk) (z := nk) h1 h2 (nI_toInt (by omega)) (by omega)
  have e : kbeG S nk (nI k) what = kbeX S (nI k).toNatClampNeg what := if_pos yes
  rw [e, nI_clamp (by omega)]
  refine kH (c_fittingFirst hL (m := k) (by omega)) (by decide) ?_
  refine And.intro (fun hn => ⟨rfl, some_int ?_⟩) (And.intro (fun hh => ?_) (And.intro (fun hh => ?_) (And.intro (fun hh => ?_) (And.intro (fun hh => ?_) trivial))))
  · have n0 : ¬ what = 0 := fun z => by subst z; revert hn; decide
    have n1 : ¬ what = 1 := fun z => by subst z; revert hn; decide
    have n2 : ¬ what = 2 := fun z => by subst z; revert hn; decide
    have n3 : ¬ what = 3 := fun z => by subst z; revert hn; decide
    unfold kbeX
    rw [if_neg n0, if_neg n1, if_neg n2, if_neg n3]
    rfl
  · subst hh; exact kH (c_bitCount _) (by decide) ⟨rfl, rfl⟩
  · subst hh; exact kH (c_thingsSure hX _ _) (by decide) ⟨rfl, rfl⟩
  · subst hh; exact kH (c_thingsSure hX _ _) (by decide) ⟨rfl, rfl⟩
  · subst hh; exact kH (c_worldNumber _ _) (by decide) ⟨rfl, rfl⟩
theorem S_behind (hX : X[0]? = some soInL) (r : REL S M) (n what : Int32) : StE l X S M 6 sgX7_behind [.ref 0, .int n, .int what] 5 sgX8_behind [.ref 27, .int n, .int what] := by
  obtain ⟨nt, ns, nk, ta, h⟩ := id r.1
  have ki := KR.ki h r.2
  have c := P_behind (l := l) (T := encM M) hX ki.1 n what
  have h12 := h.1.2.2.2.2.1.2
  have e : kbeG S nk n what = beG M nk n what := by
    unfold kbeG kbeX beG
    by_cases q : (0 : Int32) ≤ n ∧ n ≤ nI nk
    · rw [if_pos q, if_pos q]
      obtain ⟨k, hk, rfl⟩ := inC (c := nI nk) (n := nk) (nI_toInt (by omega)) (by omega) q
      rw [nI_clamp (by omega)]
      have z := fit_al h r.2 k hk
      rw [z.cnt, th1_al z, th0_al z, lead_al z 32 0 (Nat.le_refl _)]
      by_cases q2 : p3P what
      · rw [if_pos q2]
        by_cases w0 : what = 0
        · rw [if_pos w0, if_pos w0]
        rw [if_neg w0, if_neg w0]
        by_cases w1 : what = 1
        · rw [if_pos w1, if_pos w1]
        rw [if_neg w1, if_neg w1]
        by_cases w2 : what = 2
        · rw [if_pos w2, if_pos w2]
        rw [if_neg w2, if_neg w2, if_pos]
        obtain ⟨d, hd, rfl⟩ := in03n q2
        rcases (show d = 0 ∨ d = 1 ∨ d = 2 ∨ d = 3 by omega) with rfl | rfl | rfl | rfl
        · exact absurd rfl w0
        · exact absurd rfl w1
        · exact absurd rfl w2
        · rfl
      · rw [if_neg q2, if_neg (fun z => q2 (by rw [z]; decide)), if_neg (fun z => q2 (by rw [z]; decide)), if_neg (fun z => q2 (by rw [z]; decide)), if_neg (fun z => q2 (by rw [z]; decide))]
    · rw [if_neg q, if_neg q]
  rw [e] at c
  exact ste r (an_B c) (fun B => g_behind h.1 n what)
/-! many -/
abbrev MT : Type := Int32 × Int32 × Int32
def kmnF (what a : Int32) : Nat → MT
  | 0 => (5, 0, 0)
  | w + 1 => if bitF a (nI w) = 1 then (minF (kmnF what a w).1 (bcF (nI w)), maxF (kmnF what a w).2.1 (bcF (nI w)), (kmnF what a w).2.2 + if bcF (nI w) = what - 2 then 1 else 0) else kmnF what a w
def kmnA (what a : Int32) : Int32 := if what = 0 then (kmnF what a 32).1 else if what = 1 then (kmnF what a 32).2.1 else (kmnF what a 32).2.2
def kmnG (S : CS) (nk : Nat) (what : Int32) : Int32 := if kxP 8 what then (if fitF S nk = 0 then -1 else kmnA what (fitF S nk)) else -2
set_option maxRecDepth 100000 in
theorem P_many (hI : CInv S nt ns nk) (what : Int32) : Ans l 7 X sgX7_many [.ref 0, .int what] (encC S ++ T) (kmnG S nk what) := by
  refine Ctr.of okX7_many rfl (Nat.le_of_ble_eq_true rfl) (run_sound okX7_many (fun i => Nat.beq i 21 || Nat.beq i 46) 200 ?_)
  refine kH (c_isBelow what 8) (by decide) (brB' (fun q => ⟨rfl, some_int (if_neg q).symm⟩) (fun q => kH (c_fitting hI) (by decide) (br (fun z => ⟨rfl, some_int ((if_pos q).trans (if_pos z)).symm⟩) (fun z => ?_))))
  have e : kmnG S nk what = kmnA what (fitF S nk) := (if_pos q).trans (if_neg z)
  rw [e]
  have key : ∀ f : Int32, ∀ j, j ≤ 32 → ∀ x7, WP l (rmD 7 0 0) X sgX7_many kX7_many (kR S T (kmnA what f)) 21 [some (.ref 0), some (.int what), some (.int f), some (.int (kmnF what f j).1), some (.int (kmnF what f j).2.1), some (.int (kmnF what f j).2.2), some (.int (nI j)), x7] [] (encC S ++ T) 0 0 := by
    intro f
    refine down (fun x7 => ?_) (fun j hj ih x7 => ?_)
    · exact run_sound okX7_many (fun i => Nat.beq i 21) 200 (brT (Int32.le_refl _) (br (fun p0 => ⟨rfl, some_int (if_pos p0).symm⟩) (fun p0 => br (fun p1 => ⟨rfl, some_int ((if_neg p0).trans (if_pos p1)).symm⟩) (fun p1 => ⟨rfl, some_int ((if_neg p0).trans (if_neg p1)).symm⟩))))
    · have t46 : ∀ (P : MT) x7, P = kmnF what f (j + 1) → WP l (rmD 7 0 0) X sgX7_many kX7_many (kR S T (kmnA what f)) 46 [some (.ref 0), some (.int what), some (.int f), some (.int P.1), some (.int P.2.1), some (.int P.2.2), some (.int (nI j)), x7] [] (encC S ++ T) 0 0 := by
        intro P x7 hP
        subst hP
        have ih := ih x7
        rw [← nI_1 j] at ih
        exact run_sound okX7_many (fun i => Nat.beq i 21) 200 ih
      refine run_sound okX7_many (fun i => Nat.beq i 21 || Nat.beq i 46) 200 (brF (ge_no (n := 32) rfl hj (by decide)) (kH (c_bit _ _) (by decide) (br (fun h => kH (c_bitCount _) (by decide) (And.intro (by decide) (And.intro (by decide) (br (fun h2 => ?_) (fun h2 => ?_))))) (fun h => ?_))))
      · refine t46 (minF (kmnF what f j).1 (bcF (nI j)), maxF (kmnF what f j).2.1 (bcF (nI j)), (kmnF what f j).2.2 + 1) _ ?_
        have h : bitF f (nI j) = 1 := h
        have h2 : bcF (nI j) = what - 2 := h2
        rw [kmnF, if_pos h, if_pos h2]
      · refine t46 (minF (kmnF what f j).1 (bcF (nI j)), maxF (kmnF what f j).2.1 (bcF (nI j)), (kmnF what f j).2.2) _ ?_
        have h : bitF f (nI j) = 1 := h
        have h2 : ¬ bcF (nI j) = what - 2 := h2
        rw [kmnF, if_pos h, if_neg h2, show (kmnF what f j).2.2 + 0 = (kmnF what f j).2.2 from Int32.add_zero _]
      · refine t46 (kmnF what f j) _ ?_
        have h : ¬ bitF f (nI j) = 1 := h
        rw [kmnF, if_neg h]
  exact key _ 0 (Nat.zero_le _) _
theorem bc_5 : ∀ w : Fin 32, (0 : Int32) ≤ bcF (nI w.val) ∧ bcF (nI w.val) ≤ 5 ∧ ¬ bcF (nI w.val) = -1 := by decide +kernel
theorem many_al {a : Int32} {A : Int64} (hz : Zx a A) (what : Int32) : ∀ n, n ≤ 32 → ((∀ w, w < n → ¬ hsP A (nI w)) ∧ kmnF what a n = (5, 0, 0) ∧ maF what A n = (-1, -1, 0)) ∨ ((∃ w, w < n ∧ hsP A (nI w)) ∧ kmnF what a n = maF what A n ∧ ¬ (maF what A n).1 = -1)
  | 0, _ => Or.inl ⟨fun w hw => by omega, rfl, rfl⟩
  | n + 1, hn => by
    have e := hz.has (show n < 32 by omega)
    obtain ⟨b0, b5, bn⟩ := bc_5 ⟨n, by omega⟩
    have eb : cntF (nI n).toInt64 32 = bcF (nI n) := (bc_nat (by omega)).symm
    by_cases q : hsP A (nI n)
    · refine Or.inr ⟨⟨n, by omega, q⟩, ?_⟩
      rw [kmnF, maF, if_pos (e.mpr q), if_pos q, eb]
      rcases many_al hz what n (by omega) with ⟨h1, h2, h3⟩ | ⟨h1, h2, h3⟩
      · rw [h2, h3]
        have e1 : minF (5, (0 : Int32), (0 : Int32)).1 (bcF (nI n)) = bcF (nI n) := by
          unfold minF
          by_cases y : bcF (nI n) < 5
          · exact if_pos y
          · rw [if_neg y]
            exact Int32.le_antisymm (Int32.not_lt.mp y) b5
        have e2 : maxF ((5 : Int32), (0 : Int32), (0 : Int32)).2.1 (bcF (nI n)) = bcF (nI n) := by
          unfold maxF
          by_cases y : 0 < bcF (nI n)
          · exact if_pos y
          · rw [if_neg y]
            exact Int32.le_antisymm b0 (Int32.not_lt.mp y)
        have e3 : ¬ bcF (nI n) ≤ ((-1 : Int32), (-1 : Int32), (0 : Int32)).2.1 := fun y => absurd (Int32.le_trans b0 y) (by decide)
        rw [e1, e2, if_pos rfl, if_neg e3]
        exact ⟨rfl, bn⟩
      · rw [h2, if_neg h3]
        have e1 : minF (maF what A n).1 (bcF (nI n)) = if (maF what A n).1 ≤ bcF (nI n) then (maF what A n).1 else bcF (nI n) := by
          unfold minF
          by_cases y : bcF (nI n) < (maF what A n).1
          · rw [if_pos y, if_neg (Int32.not_le.mpr y)]
          · rw [if_neg y, if_pos (Int32.not_lt.mp y)]
        have e2 : maxF (maF what A n).2.1 (bcF (nI n)) = if bcF (nI n) ≤ (maF what A n).2.1 then (maF what A n).2.1 else bcF (nI n) := by
          unfold maxF
          by_cases y : (maF what A n).2.1 < bcF (nI n)
          · rw [if_pos y, if_neg (Int32.not_le.mpr y)]
          · rw [if_neg y, if_pos (Int32.not_lt.mp y)]
        rw [e1, e2]
        refine ⟨rfl, ?_⟩
        show ¬ (if (maF what A n).1 ≤ bcF (nI n) then (maF what A n).1 else bcF (nI n)) = -1
        by_cases y : (maF what A n).1 ≤ bcF (nI n)
        · rw [if_pos y]; exact h3
        · rw [if_neg y]; exact bn
    · rw [kmnF, maF, if_neg (fun z => q (e.mp z)), if_neg q]
      rcases many_al hz what n (by omega) with ⟨h1, h2, h3⟩ | ⟨⟨w, hw, h1⟩, h2, h3⟩
      · refine Or.inl ⟨fun w hw => ?_, h2, h3⟩
        by_cases ew : w = n
        · subst ew; exact q
        · exact h1 w (by omega)
      · exact Or.inr ⟨⟨w, by omega, h1⟩, h2, h3⟩
theorem S_many (r : REL S M) (what : Int32) : StE l X S M 7 sgX7_many [.ref 0, .int what] 6 sgX8_many [.ref 27, .int what] := by
  obtain ⟨nt, ns, nk, ta, h⟩ := id r.1
  have ki := KR.ki h r.2
  have c := P_many (l := l) (X := X) (T := encM M) ki.1 what
  have z := fit_al h r.2 nk (Nat.le_refl _)
  have e : kmnG S nk what = mnG M nk what := by
    unfold kmnG mnG
    have x8 : kxP 8 what ↔ ((0 : Int32) ≤ what ∧ what ≤ 7) := and_congr_right (fun _ => ltle (by decide))
    by_cases q : (0 : Int32) ≤ what ∧ what ≤ 7
    · rw [if_pos (x8.mpr q), if_pos q]
      unfold manF kmnA
      rcases many_al z what 32 (Nat.le_refl _) with ⟨h1, h2, h3⟩ | ⟨⟨w, hw, h1⟩, h2, h3⟩
      · have z0 : fitF S nk = 0 := by
          apply b_ext
          intro w hw
          rw [b_0]
          cases e : btx (fitF S nk) w with
          | false => rfl
          | true => exact absurd ((z.has hw).mp ((bitF_get _ hw).mpr e)) (h1 w hw)
        rw [if_pos z0, h3, if_pos rfl]
      · have z0 : ¬ fitF S nk = 0 := fun y => by
          have := (bitF_get _ hw).mp ((z.has hw).mpr h1)
          have e0 : btx (fitF S nk) w = false := by rw [y, b_0]
          rw [show btx (fitF S nk) w = true from this] at e0
          cases e0
        rw [if_neg z0, if_neg h3, h2]
    · rw [if_neg (fun y => q (x8.mp y)), if_neg q]
  rw [e] at c
  exact ste r (an_B c) (fun B => g_many h.1 what)
/-! judge -/
abbrev rdI (S : CS) (s i : Int32) : Int32 := atF (S.2 24) (s * Int32.ofInt 40 + i)
def kjrP (S : CS) (s n w : Int32) : Prop := kxP (S.1 133) (rdI S s (Int32.ofInt 3 * n)) ∧ kxP (S.1 93) (rdI S s (Int32.ofInt 3 * n + Int32.ofInt 1)) ∧ kxP 2 (rdI S s (Int32.ofInt 3 * n + Int32.ofInt 2)) ∧
  bitF (nextF S (rdI S s (Int32.ofInt 3 * n)) (rdI S s (Int32.ofInt 3 * n + Int32.ofInt 1)) (rdI S s (Int32.ofInt 3 * n + Int32.ofInt 2)) n) w = 1
abbrev anP (S : CS) (T : AH) (P : Prop) : AH → Option Value → Prop := fun h v => h = encC S ++ T ∧ ∃ x : Int32, v = some (.int x) ∧ ((x = 0 ∧ ¬ P) ∨ (x = 1 ∧ P))
set_option maxRecDepth 100000 in
theorem P_rowFits (hL : CLen S) (s n w : Int32) : Ctr l 3 X sgX7_rowFits [.ref 0, .int s, .int n, .int w] (encC S ++ T) (anP S T (kjrP S s n w)) := by
  refine Ctr.of okX7_rowFits rfl (Nat.le_of_ble_eq_true rfl) (run_sound okX7_rowFits noCut 300 ?_)
  have a0 : ¬ kjrP S s n w → anP S T (kjrP S s n w) (encC S ++ T) (some (.int 0)) := fun h => ⟨rfl, 0, rfl, Or.inl ⟨rfl, h⟩⟩
  have a1 : kjrP S s n w → anP S T (kjrP S s n w) (encC S ++ T) (some (.int 1)) := fun h => ⟨rfl, 1, rfl, Or.inr ⟨rfl, h⟩⟩
  refine kH (c_read hL _ _) (by decide) (kH (c_read hL _ _) (by decide) (kH (c_read hL _ _) (by decide) ?_))
  exact kH (c_isSpeaker _) (by decide) (brB' (fun q => ⟨rfl, a0 (fun z => q z.1)⟩) (fun q1 => kH (c_isText _) (by decide) (brB' (fun q => ⟨rfl, a0 (fun z => q z.2.1)⟩) (fun q2 => kH (c_isBelow _ _) (by decide) (brB' (fun q => ⟨rfl, a0 (fun z => q z.2.2.1)⟩) (fun q3 => kH (c_sayableNext hL _ _ _ _) (by decide) (kH (c_bit _ _) (by decide) (br (fun y => ⟨rfl, a1 ⟨q1, q2, q3, y⟩⟩) (fun y => ⟨rfl, a0 (fun z => y z.2.2.2)⟩)))))))))
end Q3
