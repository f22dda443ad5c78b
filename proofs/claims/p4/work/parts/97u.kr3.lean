/-! BOTH SIDES ALIKE: bytes fed, sayings by a sheet, texts -/
section KRU
variable {S S' S2 : CS} {M M' M2 : MS} {nt ns nk ta : Nat}
theorem fd_al {xs ys : List Int32} {ta : Nat} {f : Nat → Int32} (l1 : xs.length = 160) (l2 : ys.length = 160) (h : ∀ j, j < ta → xs.getD j 0 = ys.getD j 0) (M : MS) (hM : M.2.1 5 = ys) : ∀ n, ta + n ≤ 160 → ∀ j, j < ta + n → (fdC xs ta f n).getD j 0 = (fdM M ta f n).getD j 0
  | 0, _, j, hj => by
    rw [fdC, fdM, hM]
    exact h j hj
  | n + 1, hn, j, hj => by
    rw [fdC, fdM]
    by_cases e : ta + n = j
    · subst e
      rw [getD_set_eq (by rw [fdC_len, l1]; omega), getD_set_eq (by rw [fdM_len, hM, l2]; omega)]
    · rw [getD_set_ne e, getD_set_ne e]
      exact fd_al l1 l2 h M hM n (by omega) j (by omega)
theorem feed_KR (h : RInv M nt ns nk ta) (k : KR S M) (n a b c d e : Int32) : KR (kfeG S ta n a b c d e).1 (fdG M ta n a b c d e).1 ∧ (kfeG S ta n a b c d e).2 = (fdG M ta n a b c d e).2 := by
  have l5 : (M.2.1 5).length = 160 := h.1.1.2.2.2.1
  obtain ⟨p1, p2, p3⟩ := k.tp
  have e6 := h.2.1.1
  have ht := h.2.1.2
  rw [e6, nI_clamp (by omega)] at p3
  unfold kfeG fdG
  by_cases q : feQ n a b c d e
  · rw [if_pos q, if_pos q]
    by_cases q2 : 160 < ta + n.toNatClampNeg
    · rw [if_pos q2, if_pos q2]
      exact ⟨k, rfl⟩
    · rw [if_neg q2, if_neg q2]
      refine ⟨?_, rfl⟩
      have hal := fd_al (f := fdV a b c d e) p2 l5 p3 M rfl n.toNatClampNeg (by omega)
      have lc : (fdC (S.2 2) ta (fdV a b c d e) n.toNatClampNeg).length = 160 := (fdC_len _).trans p2
      generalize fdC (S.2 2) ta (fdV a b c d e) n.toNatClampNeg = u at hal lc
      generalize fdM M ta (fdV a b c d e) n.toNatClampNeg = v at hal
      obtain ⟨c1, c2, c3, c4, c5, k6, k7, k8, k9, k10, k11, k12⟩ := k
      refine ⟨c1.row 2 _ (by rw [lc]; decide), c2, c3, c4, c5, k6, k7, k8, k9, ⟨rfl, lc, ?_⟩, k11.fr rfl rfl rfl rfl rfl rfl rfl, k12⟩
      intro j hj
      have hj : j < (nI (ta + n.toNatClampNeg)).toNatClampNeg := hj
      rw [nI_clamp (by omega)] at hj
      exact hal j hj
  · rw [if_neg q, if_neg q]
    exact ⟨k, rfl⟩
/-! sayings by a sheet -/
theorem hr_sb {s z k : Nat} {fr : Int32} (hz : z ≤ 40) (e : atF (S.2 23) (nI s) = nI z) (hk : k < 12) (hf : k = 0 ∨ ((0 : Int32) ≤ fr ∧ fr ≤ 37)) : hrP S (nI s) (fr + Int32.ofInt 3 * nI k) 3 ↔ ¬ sbP (nI z) fr k := by
  have e0 : (0 : Int32).toInt = 0 := by decide
  have e3 : (3 : Int32).toInt = 3 := by decide
  have e37 : (37 : Int32).toInt = 37 := by decide
  have ez3 : ∀ x : Int32, x = 3 → (nI z - x).toInt = (z : Int) - 3 := by
    rintro x rfl
    rw [Int32.toInt_sub, nI_toInt (by omega), e3]
    apply Int.bmod_eq_of_le <;> omega
  unfold hrP sbP
  rw [e]
  have ek : Int32.ofInt 3 * nI k = nI (3 * k) := nI_mul 3 k
  rw [ek]
  have hz3 := ez3 3 rfl
  have hz3' := ez3 (Int32.ofInt 3) rfl
  rcases hf with rfl | ⟨f0, f1⟩
  · rw [show fr + nI (3 * 0) = fr from Int32.add_zero fr]
    constructor
    · rintro ⟨-, h1, h2, h3⟩
      rintro (g | g | g)
      · exact h1 g
      · exact absurd g Int32.lt_irrefl
      · have g := Int32.lt_iff_toInt_lt.mp g
        have h3 := Int32.le_iff_toInt_le.mp h3
        omega
    · intro h
      have g0 : ¬ fr < 0 := fun z => h (Or.inl z)
      have g1 : fr ≤ nI z - Int32.ofInt 3 := Int32.not_lt.mp (fun y => h (Or.inr (Or.inr y)))
      have i0 := Int32.le_iff_toInt_le.mp (Int32.not_lt.mp g0)
      have i1 := Int32.le_iff_toInt_le.mp g1
      refine ⟨by decide, g0, ?_, ?_⟩
      · rw [Int32.le_iff_toInt_le, nI_toInt (by omega)]; omega
      · rw [Int32.le_iff_toInt_le]; omega
  · have i0 := Int32.le_iff_toInt_le.mp f0
    have i1 := Int32.le_iff_toInt_le.mp f1
    have es : (fr + nI (3 * k)).toInt = fr.toInt + 3 * k := by
      rw [Int32.toInt_add, nI_toInt (by omega)]
      rw [Int.bmod_eq_of_le (by omega) (by omega)]
      omega
    have n0 : ¬ fr + nI (3 * k) < 0 := fun g => by
      have g := Int32.lt_iff_toInt_lt.mp g
      omega
    have n1 : ¬ fr + nI (3 * k) < fr := fun g => by
      have g := Int32.lt_iff_toInt_lt.mp g
      omega
    constructor
    · rintro ⟨-, h1, h2, h3⟩
      rintro (g | g | g)
      · exact absurd f0 (Int32.not_le.mpr g)
      · exact n1 g
      · have g := Int32.lt_iff_toInt_lt.mp g
        have h3 := Int32.le_iff_toInt_le.mp h3
        omega
    · intro h
      have g1 : fr + nI (3 * k) ≤ nI z - Int32.ofInt 3 := Int32.not_lt.mp (fun y => h (Or.inr (Or.inr y)))
      have i2 := Int32.le_iff_toInt_le.mp g1
      refine ⟨by decide, n0, ?_, ?_⟩
      · rw [Int32.le_iff_toInt_le, nI_toInt (by omega)]; omega
      · rw [Int32.le_iff_toInt_le]; omega
theorem sb_al {s z : Nat} {fr : Int32} (hs : s < 4) (hz : z ≤ 40) : ∀ (m k : Nat) (Q : CS) (R : MS) (nk came : Nat), k + m ≤ 12 → RInv R nt ns nk ta → KR Q R → (R.2.1 18).getD s 0 = nI z → (k = 0 ∨ ((0 : Int32) ≤ fr ∧ fr ≤ 37)) →
    KR (ksbF s fr m k Q came).1 (sbF nt ns s (nI z) fr m k (R, nk, came)).1 ∧ (ksbF s fr m k Q came).2 = (sbF nt ns s (nI z) fr m k (R, nk, came)).2
  | 0, k, Q, R, nk, came, _, _, hk, _, _ => ⟨hk, rfl⟩
  | m + 1, k, Q, R, nk, came, hkm, hR, hk, ez, hf => by
    have rs := hk.rs
    have es : atF (Q.2 23) (nI s) = nI z := by rw [rs.2.1, atF_n (by omega)]; exact ez
    have hh := hr_sb (S := Q) hz es (show k < 12 by omega) hf
    rw [ksbF, sbF]
    by_cases q : sbP (nI z) fr k
    · rw [if_pos q, if_neg (fun z => hh.mp z q)]
      exact ⟨hk, rfl⟩
    · rw [if_neg q, if_pos (hh.mpr q)]
      obtain ⟨i, hi, ei⟩ := sb_in hz q
      have hfr : (0 : Int32) ≤ fr ∧ fr ≤ 37 := by
        have g0 : (0 : Int32) ≤ fr := Int32.not_lt.mp (fun z => q (Or.inl z))
        refine ⟨g0, ?_⟩
        rcases hf with rfl | h
        · have ei : fr + Int32.ofInt 3 * nI 0 = nI i := ei
          rw [show fr + Int32.ofInt 3 * nI 0 = fr from Int32.add_zero fr] at ei
          rw [ei]
          exact (nI_leI (b := 37) (by omega) (by decide)).mpr (by omega)
        · exact h.2
      rw [ei]
      have r0 : rdC Q s (nI i) = ceA R (40 * s + i) := by
        unfold rdC ceA
        rw [show nI s * Int32.ofInt 40 = nI (s * 40) from nI_mul s 40, nI_add, atF_n (by omega), rs.2.2, Nat.mul_comm s 40]
      have r1 : rdC Q s (nI i + Int32.ofInt 1) = ceA R (40 * s + i + 1) := by
        unfold rdC ceA
        rw [show nI i + Int32.ofInt 1 = nI (i + 1) from nI_add i 1, show nI s * Int32.ofInt 40 = nI (s * 40) from nI_mul s 40, nI_add, atF_n (by omega), rs.2.2, Nat.mul_comm s 40, Nat.add_assoc]
      have r2 : rdC Q s (nI i + Int32.ofInt 2) = ceA R (40 * s + i + 2) := by
        unfold rdC ceA
        rw [show nI i + Int32.ofInt 2 = nI (i + 2) from nI_add i 2, show nI s * Int32.ofInt 40 = nI (s * 40) from nI_mul s 40, nI_add, atF_n (by omega), rs.2.2, Nat.mul_comm s 40, Nat.add_assoc]
      have eY : ksbY Q s (nI i) = ksyG Q (ceA R (40 * s + i)) (ceA R (40 * s + i + 1)) (ceA R (40 * s + i + 2)) := by
        unfold ksbY
        rw [r0, r1, r2]
      rw [eY, nI_clamp (by omega)]
      unfold sbS
      show KR (ksbF s fr m (k + 1) (ksyG Q (ceA R (40 * s + i)) (ceA R (40 * s + i + 1)) (ceA R (40 * s + i + 2))).1 _).1 _ ∧ _
      obtain ⟨s1, s2⟩ := say_KR hR hk (ceA R (40 * s + i)) (ceA R (40 * s + i + 1)) (ceA R (40 * s + i + 2))
      obtain ⟨nk', g1, g2⟩ := syG_R hR (ceA R (40 * s + i)) (ceA R (40 * s + i + 1)) (ceA R (40 * s + i + 2))
      have f2 := syG_fr (M := R) (nt := nt) (ns := ns) (nk := nk) (ceA R (40 * s + i)) (ceA R (40 * s + i + 1)) (ceA R (40 * s + i + 2))
      have ew : (if (ksyG Q (ceA R (40 * s + i)) (ceA R (40 * s + i + 1)) (ceA R (40 * s + i + 2))).2 < 0 then came else came + 1) = (if 0 ≤ (syG R nt ns nk (ceA R (40 * s + i)) (ceA R (40 * s + i + 1)) (ceA R (40 * s + i + 2))).2 then came + 1 else came) := by
        rw [s2]
        by_cases w : (syG R nt ns nk (ceA R (40 * s + i)) (ceA R (40 * s + i + 1)) (ceA R (40 * s + i + 2))).2 < 0
        · rw [if_pos w, if_neg (fun z => absurd z (Int32.not_le.mpr w))]
        · rw [if_neg w, if_pos (Int32.not_lt.mp w)]
      rw [ew]
      rw [g2] at g1
      exact sb_al hs hz m (k + 1) _ _ _ _ (by omega) g1 s1 (by rw [f2.2.2.2.2.1]; exact ez) (Or.inr hfr)
theorem sayingsBy_KR (h : RInv M nt ns nk ta) (k : KR S M) (s sort fr n : Int32) : KR (ksbG S s sort fr n).1 (sbG M nt ns nk s sort fr n).1 ∧ (ksbG S s sort fr n).2 = (sbG M nt ns nk s sort fr n).2 := by
  have rs := k.rs
  unfold ksbG sbG
  by_cases q : p3P s ∧ p2P sort ∧ ((0 : Int32) ≤ n ∧ n ≤ 12)
  · rw [if_pos q, if_pos q]
    obtain ⟨a, ha, rfl⟩ := in03n q.1
    obtain ⟨m, hm, rfl⟩ := inC (c := 12) (n := 12) (by decide) (by decide) q.2.2
    rw [rs.1, atF_n (by omega), nI_clamp (by omega), nI_clamp (by omega)]
    by_cases q2 : (M.2.1 17).getD a 0 = -1
    · rw [if_pos q2, if_pos q2]
      exact ⟨k, rfl⟩
    · rw [if_neg q2, if_neg q2]
      by_cases q3 : (M.2.1 17).getD a 0 = sort
      · rw [if_pos q3, if_pos q3]
        obtain ⟨-, z, hz, ez⟩ := h.2.2.1 a ha
        rw [ez]
        exact sb_al ha hz m 0 S M nk 0 (by omega) h k ez (Or.inl rfl)
      · rw [if_neg q3, if_neg q3]
        exact ⟨k, rfl⟩
  · rw [if_neg q, if_neg q]
    exact ⟨k, rfl⟩
end KRU
