/-! QUESTIONS ALIKE: settle -/
section Q6
variable {l : Launch} {X : List (List Int32)} {S : CS} {T : AH} {M : MS} {nt ns nk ta : Nat}
def kmkF (S : CS) (a w : Int32) : Nat → Int32
  | 0 => 0
  | t + 1 => if bitF a (nI t) = 1 ∧ bitF (onceF S (nI t)) w = 1 then kmkF S a w t ||| ((1 : Int32) <<< (nI t &&& 31)) else kmkF S a w t
set_option maxRecDepth 100000 in
theorem P_markOf (h : CInv S nt ns nk) (a w : Int32) : Ans l 3 X sgX7_markOf [.ref 0, .int a, .int w] (encC S ++ T) (kmkF S a w nt) := by
  have hL := h.1
  have h93 : S.1 93 = nI nt := h.2.1
  have n6 := h.2.2.1.2
  refine Ctr.of okX7_markOf rfl (Nat.le_of_ble_eq_true rfl) (run_sound okX7_markOf kNmk 200 ?_)
  have key : ∀ k, k ≤ nt → WP l (rmD 3 0 0) X sgX7_markOf kX7_markOf (kR S T (kmkF S a w nt)) 4 [some (.ref 0), some (.int a), some (.int w), some (.int (kmkF S a w k)), some (.int (nI k))] [] (encC S ++ T) 0 0 := by
    refine down ?_ (fun k hk ih => ?_)
    · exact run_sound okX7_markOf kNmk 200 (brT (nle h93) ⟨rfl, rfl⟩)
    · have t27 : ∀ y : Int32, y = kmkF S a w (k + 1) → WP l (rmD 3 0 0) X sgX7_markOf kX7_markOf (kR S T (kmkF S a w nt)) 27 [some (.ref 0), some (.int a), some (.int w), some (.int y), some (.int (nI k))] [] (encC S ++ T) 0 0 := by
        intro y hy
        subst hy
        have ih := ih
        rw [← nI_1 k] at ih
        exact run_sound okX7_markOf kNmk 200 ih
      refine run_sound okX7_markOf kNmk 200 (brF (nge h93 hk (by omega)) (kH (c_bit _ _) (by decide) (br (fun y1 => kH (c_onceOf hL _) (by decide) (kH (c_bit _ _) (by decide) (br (fun y2 => t27 _ ?_) (fun y2 => t27 _ ?_)))) (fun y1 => t27 _ ?_))))
      · have y1 : bitF a (nI k) = 1 := y1
        have y2 : bitF (onceF S (nI k)) w = 1 := y2
        rw [kmkF, if_pos ⟨y1, y2⟩]
        rfl
      · have y2 : ¬ bitF (onceF S (nI k)) w = 1 := y2
        rw [kmkF, if_neg (fun z => y2 z.2)]
      · have y1 : ¬ bitF a (nI k) = 1 := y1
        rw [kmkF, if_neg (fun z => y1 z.1)]
  exact key 0 (Nat.zero_le _)
theorem one_b6 : ∀ x : Fin 6, ∀ i : Fin 32, btx ((1 : Int32) <<< (nI x.val &&& 31)) i.val = decide (i.val = x.val) := by decide +kernel
theorem mark_bit (a w : Int32) {i : Nat} (hi : i < 32) : ∀ n, n ≤ 6 → (btx (kmkF S a w n) i = true ↔ i < n ∧ bitF a (nI i) = 1 ∧ bitF (onceF S (nI i)) w = 1)
  | 0, _ => by
    rw [kmkF, b_0]
    exact ⟨fun z => (by cases z), fun z => (by omega)⟩
  | n + 1, hn => by
    have ih := mark_bit a w hi n (by omega)
    rw [kmkF]
    by_cases q : bitF a (nI n) = 1 ∧ bitF (onceF S (nI n)) w = 1
    · rw [if_pos q, b_or, Bool.or_eq_true, ih, one_b6 ⟨n, by omega⟩ ⟨i, hi⟩, decide_eq_true_iff]
      constructor
      · rintro (⟨h1, h2⟩ | h1)
        · exact ⟨by omega, h2⟩
        · have h1 : i = n := h1
          subst h1
          exact ⟨by omega, q⟩
      · rintro ⟨h1, h2⟩
        by_cases en : i = n
        · exact Or.inr en
        · exact Or.inl ⟨by omega, h2⟩
    · rw [if_neg q, ih]
      constructor
      · rintro ⟨h1, h2⟩
        exact ⟨by omega, h2⟩
      · rintro ⟨h1, h2⟩
        by_cases en : i = n
        · subst en
          exact absurd h2 q
        · exact ⟨by omega, h2⟩
theorem mark_nat (a w : Int32) {n : Nat} (hn : n ≤ 6) : ∃ m, m < 64 ∧ kmkF S a w n = nI m := by
  refine ⟨(kmkF S a w n).toBitVec.toNat, ?_, ?_⟩
  · apply Nat.lt_pow_two_of_testBit (n := 6)
    intro i hi
    cases e : (kmkF S a w n).toBitVec.toNat.testBit i with
    | false => rfl
    | true =>
      have e : btx (kmkF S a w n) i = true := e
      by_cases h32 : i < 32
      · have := ((mark_bit a w h32 n hn).mp e).1
        omega
      · rw [b_big (by omega)] at e
        cases e
  · apply Int32.toBitVec_inj.mp
    show _ = BitVec.ofNat 32 _
    simp
theorem mark_ne {a v w : Int32} {n : Nat} (hn : n ≤ 6) : ¬ kmkF S a v n = kmkF S a w n ↔ ∃ t, t < n ∧ bitF a (nI t) = 1 ∧ ¬ bitF (onceF S (nI t)) v = bitF (onceF S (nI t)) w := by
  constructor
  · intro h
    apply Classical.byContradiction
    intro h2
    apply h
    have key : ∀ m, m ≤ n → kmkF S a v m = kmkF S a w m := by
      intro m
      induction m with
      | zero => intro _; rfl
      | succ m ih =>
        intro hm
        have ih := ih (by omega)
        rw [kmkF, kmkF, ih]
        by_cases q : bitF a (nI m) = 1
        · have e : bitF (onceF S (nI m)) v = bitF (onceF S (nI m)) w := Classical.byContradiction (fun z => h2 ⟨m, by omega, q, z⟩)
          rw [e]
        · rw [if_neg (fun z => q z.1), if_neg (fun z => q z.1)]
    exact key n (Nat.le_refl _)
  · rintro ⟨t, ht, h1, h2⟩ e
    apply h2
    have b1 := mark_bit (S := S) a v (i := t) (by omega) n hn
    have b2 := mark_bit (S := S) a w (i := t) (by omega) n hn
    rw [e] at b1
    have b3 := b1.symm.trans b2
    have b4 : bitF (onceF S (nI t)) v = 1 ↔ bitF (onceF S (nI t)) w = 1 := by
      constructor
      · intro z
        exact (b3.mp ⟨ht, h1, z⟩).2.2
      · intro z
        exact (b3.mpr ⟨ht, h1, z⟩).2.2
    rcases bitF_01 (onceF S (nI t)) v with q | q
    · rcases bitF_01 (onceF S (nI t)) w with q2 | q2
      · rw [q, q2]
      · have := b4.mpr q2
        rw [q] at this
        exact absurd this (by decide)
    · rw [q, b4.mp q]
/-- worlds that fit bear other marks each -/
def DsP (S : CS) (nt : Nat) (a fit : Int32) (n : Nat) : Prop := ∀ w, w < n → bitF fit (nI w) = 1 → ∀ v, v < w → bitF fit (nI v) = 1 → ¬ kmkF S a (nI v) nt = kmkF S a (nI w) nt
def SeP (S : CS) (nt : Nat) (a fit : Int32) (n : Nat) (seen : Int64) : Prop := ∀ i, i < 64 → (seen.toBitVec.getLsbD i = true ↔ ∃ v, v < n ∧ bitF fit (nI v) = 1 ∧ kmkF S a (nI v) nt = nI i)
theorem one_l : ∀ m : Fin 64, ∀ i : Fin 64, ((1 : Int64) <<< ((nI m.val).toInt64 &&& 63)).toBitVec.getLsbD i.val = decide (i.val = m.val) := by decide +kernel
theorem and_one (x : Int64) {m : Nat} (hm : m < 64) : x &&& ((1 : Int64) <<< ((nI m).toInt64 &&& 63)) = 0 ↔ x.toBitVec.getLsbD m = false := by
  constructor
  · intro h
    have e : (x &&& ((1 : Int64) <<< ((nI m).toInt64 &&& 63))).toBitVec.getLsbD m = false := by
      rw [h]
      show (0#64).getLsbD m = false
      simp
    rw [Int64.toBitVec_and, BitVec.getLsbD_and, one_l ⟨m, hm⟩ ⟨m, hm⟩, decide_eq_true rfl, Bool.and_true] at e
    exact e
  · intro h
    apply Int64.toBitVec_inj.mp
    apply BitVec.eq_of_getLsbD_eq
    intro i hi
    rw [Int64.toBitVec_and, BitVec.getLsbD_and, one_l ⟨m, hm⟩ ⟨i, hi⟩]
    have e0 : (0 : Int64).toBitVec.getLsbD i = false := by
      show (0#64).getLsbD i = false
      simp
    rw [e0]
    by_cases q : i = m
    · subst q
      rw [h, Bool.false_and]
    · rw [decide_eq_false q, Bool.and_false]
set_option maxRecDepth 100000 in
set_option maxHeartbeats 1000000 in
theorem P_settles (h : CInv S nt ns nk) (a fit : Int32) : Ctr l 4 X sgX7_settles [.ref 0, .int a, .int fit] (encC S ++ T) (anP S T (DsP S nt a fit 32)) := by
  have n6 := h.2.2.1.2
  refine Ctr.of okX7_settles rfl (Nat.le_of_ble_eq_true rfl) (run_sound okX7_settles kNse 200 ?_)
  have key : ∀ k, k ≤ 32 → ∀ (y : Int64) x6, SeP S nt a fit k y → DsP S nt a fit k → WP l (rmD 4 0 0) X sgX7_settles kX7_settles (anP S T (DsP S nt a fit 32)) 4 [some (.ref 0), some (.int a), some (.int fit), some (.long y), none, some (.int (nI k)), x6, none] [] (encC S ++ T) 0 0 := by
    refine down (fun y x6 hy hd => ?_) (fun k hk ih y x6 hy hd => ?_)
    · exact run_sound okX7_settles kNse 200 (brT (Int32.le_refl _) ⟨rfl, rfl, 1, rfl, Or.inr ⟨rfl, hd⟩⟩)
    · have t31 : ∀ (y : Int64) x6, SeP S nt a fit (k + 1) y → DsP S nt a fit (k + 1) → WP l (rmD 4 0 0) X sgX7_settles kX7_settles (anP S T (DsP S nt a fit 32)) 31 [some (.ref 0), some (.int a), some (.int fit), some (.long y), none, some (.int (nI k)), x6, none] [] (encC S ++ T) 0 0 := by
        intro y x6 hy hd
        have ih := ih y x6 hy hd
        rw [← nI_1 k] at ih
        exact run_sound okX7_settles kNse 200 ih
      obtain ⟨m, hm, em⟩ := mark_nat (S := S) a (nI k) (n := nt) n6
      have cm := P_markOf (l := l) (X := X) (T := T) h a (nI k)
      rw [em] at cm
      refine run_sound okX7_settles kNse 200 (brF (ge_no (n := 32) rfl hk (by decide)) (kH (c_bit _ _) (by decide) (br (fun y1 => kH cm (by decide) (brC (fun z => t31 _ _ ?_ ?_) (fun z => ⟨rfl, rfl, 0, rfl, Or.inl ⟨rfl, ?_⟩⟩))) (fun y1 => t31 _ _ ?_ ?_))))
      · have y1 : bitF fit (nI k) = 1 := y1
        intro i hi
        show (y ||| ((1 : Int64) <<< ((nI m).toInt64 &&& 63))).toBitVec.getLsbD i = true ↔ _
        rw [Int64.toBitVec_or, BitVec.getLsbD_or, Bool.or_eq_true, hy i hi, one_l ⟨m, hm⟩ ⟨i, hi⟩, decide_eq_true_iff]
        constructor
        · rintro (⟨v, hv, h1, h2⟩ | e)
          · exact ⟨v, by omega, h1, h2⟩
          · have e : i = m := e
            exact ⟨k, by omega, y1, by rw [e]; exact em⟩
        · rintro ⟨v, hv, h1, h2⟩
          by_cases e : v = k
          · subst e
            rw [em] at h2
            exact Or.inr (nI_inj (by omega) (by omega) h2).symm
          · exact Or.inl ⟨v, by omega, h1, h2⟩
      · have z : y &&& ((1 : Int64) <<< ((nI m).toInt64 &&& 63)) = 0 := z
        rw [and_one y hm] at z
        intro w hw f1 v hv f2 e
        by_cases ek : w = k
        · subst ek
          rw [em] at e
          have := (hy m hm).mpr ⟨v, hv, f2, e⟩
          rw [z] at this
          cases this
        · exact hd w (by omega) f1 v hv f2 e
      · have z : ¬ y &&& ((1 : Int64) <<< ((nI m).toInt64 &&& 63)) = 0 := z
        rw [and_one y hm, Bool.not_eq_false] at z
        obtain ⟨v, hv, f2, e⟩ := (hy m hm).mp z
        exact fun hd => hd k hk y1 v hv f2 (e.trans em.symm)
      · have y1 : ¬ bitF fit (nI k) = 1 := y1
        intro i hi
        rw [hy i hi]
        constructor
        · rintro ⟨v, hv, h1, h2⟩
          exact ⟨v, by omega, h1, h2⟩
        · rintro ⟨v, hv, h1, h2⟩
          by_cases e : v = k
          · subst e; exact absurd h1 y1
          · exact ⟨v, by omega, h1, h2⟩
      · have y1 : ¬ bitF fit (nI k) = 1 := y1
        intro w hw f1 v hv f2
        by_cases ek : w = k
        · subst ek; exact absurd f1 y1
        · exact hd w (by omega) f1 v hv f2
  refine key 0 (Nat.zero_le _) _ _ ?_ (fun w hw => by omega)
  intro i hi
  have e0 : (Int64.ofInt 0).toBitVec.getLsbD i = false := by
    show (0#64).getLsbD i = false
    simp
  rw [e0]
  exact ⟨fun z => (by cases z), fun ⟨v, hv, _⟩ => (by omega)⟩
theorem apF_iff (left : Int64) (a : Int32) (k : Nat) : ∀ n, apF M left a k n = true ↔ apP left k ∨ ∃ t, t < n ∧ apT M a k t
  | 0 => by
    rw [apF]
    by_cases q : apP left k
    · rw [if_pos q]
      exact ⟨fun _ => Or.inl q, fun _ => rfl⟩
    · rw [if_neg q]
      exact ⟨fun z => (by cases z), fun z => z.elim (fun y => absurd y q) (fun ⟨t, ht, _⟩ => (by omega))⟩
  | n + 1 => by
    have ih := apF_iff left a k n
    rw [apF]
    by_cases q : apF M left a k n = true
    · rw [if_pos q]
      refine ⟨fun _ => (ih.mp q).imp id (fun ⟨t, ht, h⟩ => ⟨t, by omega, h⟩), fun _ => rfl⟩
    · rw [if_neg q]
      by_cases q2 : apT M a k n
      · rw [if_pos q2]
        exact ⟨fun _ => Or.inr ⟨n, by omega, q2⟩, fun _ => rfl⟩
      · rw [if_neg q2]
        refine ⟨fun z => (by cases z), fun z => ?_⟩
        rcases z with z | ⟨t, ht, z⟩
        · exact absurd (ih.mpr (Or.inl z)) q
        · by_cases e : t = n
          · subst e; exact absurd z q2
          · exact absurd (ih.mpr (Or.inr ⟨t, by omega, z⟩)) q
theorem seF_iff (left : Int64) (a : Int32) : ∀ m k, seF M nt left a m k = true ↔ ∀ i, k ≤ i → i < k + m → apF M left a i nt = true
  | 0, k => ⟨fun _ i h1 h2 => (by omega), fun _ => rfl⟩
  | m + 1, k => by
    rw [seF]
    by_cases q : apF M left a k nt = true
    · rw [if_pos q, seF_iff left a m (k + 1)]
      constructor
      · intro h i h1 h2
        by_cases e : i = k
        · subst e; exact q
        · exact h i (by omega) (by omega)
      · intro h i h1 h2
        exact h i (by omega) (by omega)
    · rw [if_neg q]
      exact ⟨fun z => (by cases z), fun z => absurd (z k (Nat.le_refl _) (by omega)) q⟩
theorem bI_ne {p q : Prop} [Decidable p] [Decidable q] {x y : Int32} (h1 : x = bI p) (h2 : y = bI q) : (¬ x = y ↔ ¬ bI p = bI q) := by rw [h1, h2]
theorem ds_al (h : RInv M nt ns nk ta) (k : KR S M) {fit : Int32} {F : Int64} (hz : Zx fit F) (a : Int32) : DsP S nt a fit 32 ↔ seF M nt F a 1024 0 = true := by
  have n6 := h.1.2.2.1.2.2
  rw [seF_iff]
  have tt : ∀ t v w : Nat, t < nt → v < 32 → w < 32 → ((bitF a (nI t) = 1 ∧ ¬ bitF (onceF S (nI t)) (nI v) = bitF (onceF S (nI t)) (nI w)) ↔ (a >>> (nI t &&& 31) &&& 1 = 1 ∧ ¬ bI (hsP (mtF M (10 * t)) (nI v)) = bI (hsP (mtF M (10 * t)) (nI w)))) := by
    intro t v w ht hv hw
    have zo := once_al h k ht
    exact and_congr (sshr_bit a (show t < 32 by omega)).symm (bI_ne (bit_bI zo hv) (bit_bI zo hw))
  constructor
  · intro hd i _ hi
    have hi : i < 1024 := by omega
    rw [apF_iff]
    have v32 : i / 32 < 32 := by omega
    have w32 : i % 32 < 32 := by omega
    by_cases p : apP F i
    · exact Or.inl p
    · refine Or.inr ?_
      have p1 : i / 32 < i % 32 := Nat.lt_of_not_le (fun z => p (Or.inl z))
      have p2 : hsP F (nI (i / 32)) := Classical.byContradiction (fun z => p (Or.inr (Or.inl z)))
      have p3 : hsP F (nI (i % 32)) := Classical.byContradiction (fun z => p (Or.inr (Or.inr z)))
      obtain ⟨t, ht, h1⟩ := (mark_ne n6).mp (hd (i % 32) w32 ((hz.has w32).mpr p3) (i / 32) p1 ((hz.has v32).mpr p2))
      exact ⟨t, ht, (tt t _ _ ht v32 w32).mp h1⟩
  · intro hs w hw f1 v hv f2
    have e := hs (32 * v + w) (Nat.zero_le _) (by omega)
    rw [apF_iff] at e
    have d1 : (32 * v + w) / 32 = v := by omega
    have d2 : (32 * v + w) % 32 = w := by omega
    have v32 : v < 32 := by omega
    refine (mark_ne n6).mpr ?_
    rcases e with e | ⟨t, ht, e⟩
    · unfold apP at e
      rw [d1, d2] at e
      rcases e with e | e | e
      · omega
      · exact absurd ((hz.has v32).mp f2) e
      · exact absurd ((hz.has hw).mp f1) e
    · unfold apT at e
      rw [d1, d2] at e
      exact ⟨t, ht, (tt t v w ht v32 hw).mpr e⟩
set_option maxRecDepth 100000 in
theorem P_settle (h : RInv M nt ns nk ta) (k : KR S M) (what : Int32) : Ans l 7 X sgX7_settle [.ref 0, .int what] (mk S M) (stG M nt nk what) := by
  have q := (KR.ki h k)
  have n6 := q.1.2.2.1.2
  have hp2 : 2 ^ nt ≤ 64 := Nat.le_trans (Nat.pow_le_pow_right (by decide) n6) (by decide)
  have hsh : (1 : Int32) <<< (S.1 93 &&& 31) = nI (2 ^ nt) := by rw [q.1.2.1]; exact shl_nI nt (by omega)
  have hz := fit_al h k nk (Nat.le_refl _)
  refine Ctr.of okX7_settle rfl (Nat.le_of_ble_eq_true rfl) (run_sound okX7_settle kNst 200 ?_)
  refine kH (c_isBelow what 2) (by decide) (brB' (fun w => ⟨rfl, some_int (if_neg (fun z => w (x2_iff.mpr z))).symm⟩) (fun w => kH (c_fitting q.1) (by decide) ?_))
  obtain ⟨C, hC⟩ : ∃ C : Nat → Bool, ∀ m, C m = seF M nt (woT M nk) (nI m) 1024 0 := ⟨_, fun _ => rfl⟩
  have e : stG M nt nk what = if what = 1 ∨ clB C (2 ^ nt) = -1 then clB C (2 ^ nt) else bcF (clB C (2 ^ nt)) := by
    rw [clO_al (P := fun a => seF M nt (woT M nk) a 1024 0) (by omega) (fun m _ => hC m) what]
    exact if_pos (x2_iff.mp w)
  rw [e]
  have key : ∀ i, i ≤ 2 ^ nt → WP l (rmD 7 0 0) X sgX7_settle kX7_settle (fun h w => h = mk S M ∧ w = some (.int (if what = 1 ∨ clB C (2 ^ nt) = -1 then clB C (2 ^ nt) else bcF (clB C (2 ^ nt))))) 13 [some (.ref 0), some (.int what), some (.int (fitF S nk)), some (.int (clB C i)), some (.int (nI i))] [] (mk S M) 0 0 := by
    refine down ?_ (fun i hi ih => ?_)
    · exact run_sound okX7_settle kNst 200 (brT (ge_end hsh) (br (fun y => ⟨rfl, some_int (if_pos (Or.inl y)).symm⟩) (fun y => br (fun y2 => ⟨rfl, some_int (if_pos (Or.inr y2)).symm⟩) (fun y2 => kH (c_bitCount _) (by decide) ⟨rfl, some_int (if_neg (fun z => z.elim y y2)).symm⟩))))
    · have t34 : ∀ y : Int32, y = clB C (i + 1) → WP l (rmD 7 0 0) X sgX7_settle kX7_settle (fun h w => h = mk S M ∧ w = some (.int (if what = 1 ∨ clB C (2 ^ nt) = -1 then clB C (2 ^ nt) else bcF (clB C (2 ^ nt))))) 34 [some (.ref 0), some (.int what), some (.int (fitF S nk)), some (.int y), some (.int (nI i))] [] (mk S M) 0 0 := by
        intro y hy
        subst hy
        have ih := ih
        rw [← nI_1 i] at ih
        exact run_sound okX7_settle kNst 200 ih
      refine run_sound okX7_settle kNst 200 (brF (ge_no hsh hi (by omega)) ⟨4, _, by decide, P_settles (T := encM M) q.1 _ _, ?_⟩)
      have ed := ds_al h k hz (nI i)
      rw [← hC i] at ed
      rintro hp w' ⟨rfl, x, rfl, hx⟩
      refine br (fun x0 => t34 _ ?_) (fun x0 => br (fun y => t34 _ ?_) (fun y => kH (c_fewer _ _) (by decide) (t34 _ ?_)))
      · have x0 : x = 0 := x0
        have np : ¬ C i = true := fun z => by
          rcases hx with ⟨-, y⟩ | ⟨y, -⟩
          · exact y (ed.mpr z)
          · rw [x0] at y; exact absurd y (by decide)
        rw [clB, if_neg np]
      · have x0 : ¬ x = 0 := x0
        have y : clB C i = -1 := y
        have np : C i = true := by
          rcases hx with ⟨z, -⟩ | ⟨-, z⟩
          · exact absurd z x0
          · exact ed.mp z
        rw [clB, if_pos np, if_pos y]
      · have x0 : ¬ x = 0 := x0
        have y : ¬ clB C i = -1 := y
        have np : C i = true := by
          rcases hx with ⟨z, -⟩ | ⟨-, z⟩
          · exact absurd z x0
          · exact ed.mp z
        rw [clB, if_pos np, if_neg y]
  exact key 0 (Nat.zero_le _)
theorem S_settle (r : REL S M) (what : Int32) : StE l X S M 7 sgX7_settle [.ref 0, .int what] 6 sgX8_settle [.ref 27, .int what] := by
  obtain ⟨nt, ns, nk, ta, h⟩ := id r.1
  exact ste r (an_B (P_settle h r.2 what)) (fun B => g_settle h.1 what)
end Q6
