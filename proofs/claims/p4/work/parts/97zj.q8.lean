/-! QUESTIONS ALIKE: least -/
section Q8
variable {l : Launch} {X : List (List Int32)} {S : CS} {T : AH} {M : MS} {nt ns nk ta : Nat}
theorem cB_mono {a b : Nat} (h : ∀ i, a.testBit i = true → b.testBit i = true) : ∀ k, cB a k ≤ cB b k ∧ a % 2 ^ k ≤ b % 2 ^ k
  | 0 => ⟨Nat.le_refl _, by rw [Nat.pow_zero, Nat.mod_one, Nat.mod_one]; exact Nat.le_refl _⟩
  | k + 1 => by
    obtain ⟨h1, h2⟩ := cB_mono h k
    have e : a / 2 ^ k % 2 ≤ b / 2 ^ k % 2 := by
      have t := h k
      rw [Nat.testBit_eq_decide_div_mod_eq, Nat.testBit_eq_decide_div_mod_eq, decide_eq_true_iff, decide_eq_true_iff] at t
      rcases Nat.mod_two_eq_zero_or_one (a / 2 ^ k) with y | y
      · rw [y]; exact Nat.zero_le _
      · rw [y, t y]; exact Nat.le_refl _
    rw [cB, cB, Nat.mod_pow_succ, Nat.mod_pow_succ]
    exact ⟨Nat.add_le_add h1 e, Nat.add_le_add h2 (Nat.mul_le_mul_left _ e)⟩
/-- bits first, then the number -/
def keyN (m : Nat) : Nat := 8192 * cB m 32 + m
theorem keyN_mono {a b : Nat} (ha : a < 8192) (hb : b < 8192) (h : ∀ i, a.testBit i = true → b.testBit i = true) : keyN a ≤ keyN b := by
  obtain ⟨h1, h2⟩ := cB_mono h 32
  rw [Nat.mod_eq_of_lt (by omega), Nat.mod_eq_of_lt (by omega)] at h2
  unfold keyN
  omega
theorem keyN_inj {a b : Nat} (ha : a < 8192) (hb : b < 8192) (h : keyN a = keyN b) : a = b := by
  unfold keyN at h
  omega
theorem cB_le (n : Nat) : ∀ k, cB n k ≤ k
  | 0 => Nat.le_refl _
  | k + 1 => by
    have h := cB_le n k
    have := Nat.mod_lt (n / 2 ^ k) (show 0 < 2 by decide)
    rw [cB]
    omega
theorem nI_ltJ {a b : Nat} (ha : a < 2 ^ 31) (hb : b < 2 ^ 31) : nI a < nI b ↔ a < b := by
  rw [Int32.lt_iff_toInt_lt, nI_toInt ha, nI_toInt hb]
  omega
theorem cn_cB {a : Nat} (ha : a < 2 ^ 31) : cnN (nI a).toInt64 32 = cB a 32 := by
  rw [cnN_cB (zx_nat ha) 32 (Nat.le_refl _)]
  have e : (nI a).toBitVec = BitVec.ofNat 32 a := rfl
  rw [e, BitVec.toNat_ofNat, Nat.mod_eq_of_lt (by omega)]
theorem fewer_N {a b : Nat} (ha : a < 8192) (hb : b < 8192) : fewerF (nI a) (nI b) = if keyN a < keyN b then nI a else nI b := by
  have l1 := cB_le a 32
  have l2 := cB_le b 32
  unfold fewerF
  rw [bc_nat (by omega), bc_nat (by omega), cnt_N, cnt_N, cn_cB (by omega), cn_cB (by omega)]
  obtain ⟨c1, c2⟩ := cnt_lt (cB a 32) (cB b 32) l1 l2
  rw [nI_ltJ (by omega) (by omega)] at c1
  have c3 : nI a < nI b ↔ a < b := nI_ltJ (by omega) (by omega)
  by_cases q : keyN a < keyN b
  · rw [if_pos q, if_pos]
    rw [c1, c2, c3]
    unfold keyN at q
    omega
  · rw [if_neg q, if_neg]
    rw [c1, c2, c3]
    unfold keyN at q
    omega
theorem clB_low {C : Nat → Bool} : ∀ n, n ≤ 4096 → ((∀ m, m < n → ¬ C m = true) ∧ clB C n = -1) ∨ ∃ v, v < n ∧ C v = true ∧ clB C n = nI v ∧ ∀ m, m < n → C m = true → keyN v ≤ keyN m
  | 0, _ => Or.inl ⟨fun m hm => absurd hm (Nat.not_lt_zero _), rfl⟩
  | n + 1, hn => by
    rw [clB]
    have ih := clB_low (C := C) n (by omega)
    by_cases q : C n = true
    · rw [if_pos q]
      rcases ih with ⟨h1, h2⟩ | ⟨v, hv, hc, e, hm⟩
      · rw [if_pos h2]
        refine Or.inr ⟨n, by omega, q, rfl, fun m hm hc => ?_⟩
        by_cases y : m = n
        · rw [y]; exact Nat.le_refl _
        · exact absurd hc (h1 m (by omega))
      · rw [e, if_neg (nI_m1_ne (by omega)), fewer_N (by omega) (by omega)]
        by_cases y : keyN n < keyN v
        · rw [if_pos y]
          refine Or.inr ⟨n, by omega, q, rfl, fun m hm' hc => ?_⟩
          by_cases y2 : m = n
          · rw [y2]; exact Nat.le_refl _
          · exact Nat.le_trans (Nat.le_of_lt y) (hm m (by omega) hc)
        · rw [if_neg y]
          refine Or.inr ⟨v, by omega, hc, rfl, fun m hm' hc => ?_⟩
          by_cases y2 : m = n
          · rw [y2]; exact Nat.not_lt.mp y
          · exact hm m (by omega) hc
    · rw [if_neg q]
      rcases ih with ⟨h1, h2⟩ | ⟨v, hv, hc, e, hm⟩
      · refine Or.inl ⟨fun m hm => ?_, h2⟩
        by_cases y : m = n
        · rw [y]; exact q
        · exact h1 m (by omega)
      · refine Or.inr ⟨v, by omega, hc, e, fun m hm' hc => ?_⟩
        by_cases y : m = n
        · rw [y] at hc; exact absurd hc q
        · exact hm m (by omega) hc
theorem b_1 (j : Nat) (hj : j < 32) : btx 1 j = decide (j = 0) := (by decide +kernel : ∀ j, j < 32 → btx 1 j = decide (j = 0)) j hj
theorem mis_bit (u : Int32) : ∀ k, k ≤ 12 → ∀ i, i < 32 → (btx (misF S u k) i = true ↔ i < k ∧ bitF (sayF S (nI i)) u = 0)
  | 0, _, i, _ => by
    rw [misF, b_0]
    exact ⟨fun z => (by cases z), fun z => absurd z.1 (Nat.not_lt_zero _)⟩
  | k + 1, hk, i, hi => by
    have ih := mis_bit u k (by omega) i hi
    rw [misF]
    by_cases q : bitF (sayF S (nI k)) u = 0
    · rw [if_pos q, b_or, Bool.or_eq_true, ih, b_shl k (by omega) 1 hi, Bool.and_eq_true, b_1 (i - k) (by omega), decide_eq_true_iff, decide_eq_true_iff]
      constructor
      · rintro (⟨h1, h2⟩ | ⟨h1, h2⟩)
        · exact ⟨by omega, h2⟩
        · have e : i = k := by omega
          rw [e]
          exact ⟨by omega, q⟩
      · rintro ⟨h1, h2⟩
        by_cases e : i < k
        · exact Or.inl ⟨e, h2⟩
        · exact Or.inr ⟨by omega, by omega⟩
    · rw [if_neg q, ih]
      constructor
      · rintro ⟨h1, h2⟩
        exact ⟨by omega, h2⟩
      · rintro ⟨h1, h2⟩
        refine ⟨?_, h2⟩
        by_cases e : i = k
        · rw [e] at h2; exact absurd h2 q
        · omega
/-- what does not fit a world, as a number -/
def mfN (S : CS) (nk u : Nat) : Nat := (misF S (nI u) nk).toBitVec.toNat
theorem mf_eq (u : Nat) : misF S (nI u) nk = nI (mfN S nk u) := by
  apply Int32.toBitVec_inj.mp
  show _ = BitVec.ofNat 32 (misF S (nI u) nk).toBitVec.toNat
  simp
theorem mf_bit (hk : nk ≤ 12) (u i : Nat) : (mfN S nk u).testBit i = true ↔ i < nk ∧ bitF (sayF S (nI i)) (nI u) = 0 := by
  have e : (mfN S nk u).testBit i = btx (misF S (nI u) nk) i := rfl
  rw [e]
  by_cases q : i < 32
  · exact mis_bit (nI u) nk hk i q
  · rw [b_big (by omega)]
    exact ⟨fun z => (by cases z), fun z => by omega⟩
theorem mf_lt (hk : nk ≤ 12) (u : Nat) : mfN S nk u < 2 ^ nk := by
  apply Nat.lt_pow_two_of_testBit
  intro i hi
  by_cases q : (mfN S nk u).testBit i = true
  · have := ((mf_bit hk u i).mp q).1
    omega
  · exact Bool.eq_false_iff.mpr q
theorem p_4096 (hk : nk ≤ 12) : 2 ^ nk ≤ 4096 := Nat.pow_le_pow_right (n := 2) (by decide) hk
theorem mf_4095 (hk : nk ≤ 12) (u : Nat) : keyN (mfN S nk u) ≤ keyN 4095 := by
  have h1 := mf_lt (S := S) hk u
  have h2 := p_4096 hk
  refine keyN_mono (by omega) (by decide) (fun i hi => ?_)
  have h3 := ((mf_bit hk u i).mp hi).1
  exact (by decide : ∀ i : Fin 12, (4095 : Nat).testBit i.val = true) ⟨i, by omega⟩
theorem hs_and {A B : Int64} {w : Nat} (hw : w < 32) : hsP (A &&& B) (nI w) ↔ hsP A (nI w) ∧ hsP B (nI w) := by
  rw [hs_bit hw, hs_bit hw, hs_bit hw, Int64.toBitVec_and, BitVec.getLsbD_and, Bool.and_eq_true]
theorem hs_all {w : Nat} (hw : w < 32) : hsP ALLW (nI w) := (hs_bit hw).mpr (by
  rw [show (ALLW : Int64) = 4294967295 from rfl, bl_all]
  exact decide_eq_true hw)
theorem hs_ne {A : Int64} {w : Nat} (hw : w < 32) (h : hsP A (nI w)) : ¬ A = 0 := by
  rintro rfl
  have := (hs_bit hw).mp h
  rw [show (0 : Int64).toBitVec.getLsbD w = false from BitVec.getLsbD_zero] at this
  cases this
theorem wi_lo (left : Int32) : ∀ k, Lo (wiT M left k)
  | 0 => woT_lo 0
  | k + 1 => Lo.and (wi_lo left k)
theorem wi_bit (left : Int32) {w : Nat} (hw : w < 32) : ∀ k, hsP (wiT M left k) (nI w) ↔ hsP (woT M 0) (nI w) ∧ ∀ j, j < k → (left >>> (nI j &&& 31) &&& 1 = 1 ∨ hsP (fsT M j) (nI w))
  | 0 => ⟨fun h => ⟨h, fun j hj => absurd hj (Nat.not_lt_zero _)⟩, fun h => h.1⟩
  | k + 1 => by
    rw [wiT, hs_and hw, wi_bit left hw k]
    by_cases q : left >>> (nI k &&& 31) &&& 1 = 1
    · rw [if_pos q]
      constructor
      · rintro ⟨⟨h1, h2⟩, -⟩
        refine ⟨h1, fun j hj => ?_⟩
        by_cases y : j = k
        · rw [y]; exact Or.inl q
        · exact h2 j (by omega)
      · rintro ⟨h1, h2⟩
        exact ⟨⟨h1, fun j hj => h2 j (by omega)⟩, hs_all hw⟩
    · rw [if_neg q]
      constructor
      · rintro ⟨⟨h1, h2⟩, h3⟩
        refine ⟨h1, fun j hj => ?_⟩
        by_cases y : j = k
        · rw [y]; exact Or.inr h3
        · exact h2 j (by omega)
      · rintro ⟨h1, h2⟩
        exact ⟨⟨h1, fun j hj => h2 j (by omega)⟩, (h2 k (by omega)).elim (fun z => absurd z q) id⟩
theorem nb_get {m i : Nat} (hi : i < 32) : (nI m).toBitVec.getLsbD i = m.testBit i := by
  have e : (nI m).toBitVec = BitVec.ofNat 32 m := rfl
  rw [e, BitVec.getLsbD_ofNat, decide_eq_true hi, Bool.true_and]
theorem can_iff (h : RInv M nt ns nk ta) (k : KR S M) (m : Nat) : ¬ wiT M (nI m) nk = 0 ↔ ∃ u, u < 32 ∧ bitF (lawF S) (nI u) = 1 ∧ ∀ i, (mfN S nk u).testBit i = true → m.testBit i = true := by
  have h12 := h.1.2.2.2.2.1.2
  constructor
  · intro z
    obtain ⟨w, hw, b⟩ := lo_some (wi_lo (nI m) nk) z
    obtain ⟨b0, b1⟩ := (wi_bit (nI m) hw nk).mp b
    refine ⟨w, hw, ((law_al h k).has hw).mpr b0, fun i hi => ?_⟩
    obtain ⟨hik, hs⟩ := (mf_bit h12 w i).mp hi
    rcases b1 i hik with y | y
    · rw [← nb_get (show i < 32 by omega)]
      exact (sshr_get (nI m) (by omega)).mp y
    · have y2 := ((say_al h k hik).has hw).mpr y
      rw [hs] at y2
      exact absurd y2 (by decide)
  · rintro ⟨u, hu, hl, hs⟩
    refine hs_ne hu ((wi_bit (nI m) hu nk).mpr ⟨((law_al h k).has hu).mp hl, fun j hj => ?_⟩)
    by_cases y : bitF (sayF S (nI j)) (nI u) = 1
    · exact Or.inr (((say_al h k hj).has hu).mp y)
    · refine Or.inl ((sshr_get (nI m) (by omega)).mpr ?_)
      rw [nb_get (by omega)]
      exact hs j ((mf_bit h12 u j).mpr ⟨hj, (bitF_z _ _).mpr y⟩)
theorem lf_low (hk : nk ≤ 12) : ∀ w, ∃ v, v ≤ 4095 ∧ leastF S nk w = nI v ∧ keyN v ≤ keyN 4095 ∧ (∀ u, u < w → bitF (lawF S) (nI u) = 1 → keyN v ≤ keyN (mfN S nk u)) ∧ (v = 4095 ∨ ∃ u, u < w ∧ bitF (lawF S) (nI u) = 1 ∧ v = mfN S nk u)
  | 0 => ⟨4095, Nat.le_refl _, rfl, Nat.le_refl _, fun u hu => absurd hu (Nat.not_lt_zero _), Or.inl rfl⟩
  | w + 1 => by
    obtain ⟨v, hv, e, h1, h2, h3⟩ := lf_low hk w
    rw [leastF]
    by_cases q : bitF (lawF S) (nI w) = 1
    · have g1 := mf_lt (S := S) hk w
      have g2 := p_4096 hk
      rw [if_pos q, mf_eq, e, fewer_N (by omega) (by omega)]
      by_cases y : keyN (mfN S nk w) < keyN v
      · rw [if_pos y]
        refine ⟨mfN S nk w, by omega, rfl, by omega, fun u hu hl => ?_, Or.inr ⟨w, by omega, q, rfl⟩⟩
        by_cases y2 : u = w
        · rw [y2]; exact Nat.le_refl _
        · exact Nat.le_trans (Nat.le_of_lt y) (h2 u (by omega) hl)
      · rw [if_neg y]
        refine ⟨v, hv, rfl, h1, fun u hu hl => ?_, h3.elim Or.inl (fun ⟨u, a, b, c⟩ => Or.inr ⟨u, by omega, b, c⟩)⟩
        by_cases y2 : u = w
        · rw [y2]; exact Nat.not_lt.mp y
        · exact h2 u (by omega) hl
    · rw [if_neg q]
      refine ⟨v, hv, e, h1, fun u hu hl => ?_, h3.elim Or.inl (fun ⟨u, a, b, c⟩ => Or.inr ⟨u, by omega, b, c⟩)⟩
      by_cases y2 : u = w
      · rw [y2] at hl; exact absurd hl q
      · exact h2 u (by omega) hl
theorem least_al (h : RInv M nt ns nk ta) (k : KR S M) (what : Int32) : leastA S nk what = leG M nk what := by
  have h12 := h.1.2.2.2.2.1.2
  unfold leastA leG
  by_cases q : p1P what
  · rw [if_neg (fun z => z (x2_iff.mpr q)), if_pos q]
    have hP := p_4096 h12
    rw [← clO_al (C := fun m => decide (¬ wiT M (nI m) nk = 0)) (P := fun left => decide (¬ wiT M left nk = 0)) (n := 2 ^ nk) (by omega) (fun _ _ => rfl) what]
    have cl := clB_low (C := fun m => decide (¬ wiT M (nI m) nk = 0)) (2 ^ nk) hP
    generalize clB (fun m => decide (¬ wiT M (nI m) nk = 0)) (2 ^ nk) = K at cl ⊢
    by_cases q0 : lawF S = 0
    · rw [if_pos q0]
      rcases cl with ⟨-, e⟩ | ⟨v, -, hc, -, -⟩
      · rw [e, if_pos (Or.inr rfl)]
      · obtain ⟨u, hu, hl, -⟩ := (can_iff h k v).mp (of_decide_eq_true hc)
        rw [q0, bitF_get _ hu] at hl
        rw [show (0 : Int32).toBitVec.getLsbD u = false from BitVec.getLsbD_zero] at hl
        cases hl
    · rw [if_neg q0]
      obtain ⟨v, hv, e, h1, h2, h3⟩ := lf_low (S := S) h12 32
      obtain ⟨u0, hu0, hb0⟩ := lo_some (woT_lo (M := M) 0) (fun z => q0 ((law_al h k).zero.mpr z))
      have hl0 := ((law_al h k).has hu0).mpr hb0
      have c0 : ∀ u, u < 32 → bitF (lawF S) (nI u) = 1 → decide (¬ wiT M (nI (mfN S nk u)) nk = 0) = true := fun u hu hl => decide_eq_true ((can_iff h k _).mpr ⟨u, hu, hl, fun i z => z⟩)
      have m0 := mf_lt (S := S) h12 u0
      rcases cl with ⟨z, -⟩ | ⟨v', hv', hc', e', hm'⟩
      · exact absurd (c0 u0 hu0 hl0) (z _ m0)
      · obtain ⟨u, hu, hl, hs⟩ := (can_iff h k v').mp (of_decide_eq_true hc')
        have mu := mf_lt (S := S) h12 u
        have a1 : keyN v ≤ keyN v' := Nat.le_trans (h2 u hu hl) (keyN_mono (by omega) (by omega) hs)
        have a2 : keyN v' ≤ keyN v := by
          rcases h3 with z | ⟨u1, hu1, hl1, z⟩
          · have b1 := h2 u0 hu0 hl0
            have b2 := mf_4095 (S := S) h12 u0
            rw [z] at b1 ⊢
            have b3 := hm' _ m0 (c0 u0 hu0 hl0)
            omega
          · rw [z]
            exact hm' _ (mf_lt h12 u1) (c0 u1 hu1 hl1)
        have ev : v = v' := keyN_inj (by omega) (by omega) (by omega)
        rw [e, e', ← ev]
        obtain ⟨d, hd, rfl⟩ := inC (c := 1) (n := 1) (by decide) (by decide) q
        have n1 : ¬ nI v = -1 := nI_m1_ne (by omega)
        rcases (show d = 0 ∨ d = 1 by omega) with rfl | rfl
        · rw [if_pos (show nI 0 = 0 from rfl), if_neg (fun z => z.elim (fun y => absurd y (by decide)) n1)]
        · rw [if_neg (show ¬ nI 1 = 0 by decide), if_pos (Or.inl (show nI 1 = 1 from rfl))]
  · rw [if_pos (fun z => q (x2_iff.mp z)), if_neg q]
theorem S_least (r : REL S M) (what : Int32) : StE l X S M 6 sgX7_least [.ref 0, .int what] 6 sgX8_least [.ref 27, .int what] := by
  obtain ⟨nt, ns, nk, ta, h⟩ := id r.1
  have c := c_least (l := l) (X := X) (T := encM M) (KR.ki h r.2).1 what
  rw [least_al h r.2] at c
  exact ste r (an_B c) (fun B => g_least h.1 what)
end Q8
