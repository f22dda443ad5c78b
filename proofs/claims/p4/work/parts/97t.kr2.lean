/-! BOTH SIDES ALIKE: sheets, bytes fed, sayings by a sheet -/
section KRT
variable {S S' S2 : CS} {M M' M2 : MS} {nt ns nk ta : Nat}
def FrS (S S' : CS) : Prop := S'.2 2 = S.2 2 ∧ S'.2 4 = S.2 4 ∧ S'.2 5 = S.2 5 ∧ S'.2 6 = S.2 6 ∧ S'.2 7 = S.2 7 ∧ S'.2 10 = S.2 10 ∧ S'.2 11 = S.2 11 ∧ S'.2 12 = S.2 12 ∧ S'.2 14 = S.2 14 ∧ S'.2 15 = S.2 15 ∧ S'.2 16 = S.2 16 ∧ S'.2 18 = S.2 18 ∧ S'.2 19 = S.2 19 ∧ S'.2 20 = S.2 20 ∧ S'.1 = S.1
def FmS (M M' : MS) : Prop := M'.2.1 1 = M.2.1 1 ∧ M'.2.1 2 = M.2.1 2 ∧ M'.2.1 4 = M.2.1 4 ∧ M'.2.1 5 = M.2.1 5 ∧ M'.2.1 7 = M.2.1 7 ∧ M'.2.1 8 = M.2.1 8 ∧ M'.2.1 15 = M.2.1 15 ∧ M'.2.1 16 = M.2.1 16 ∧ M'.2.1 25 = M.2.1 25 ∧ M'.1 = M.1
theorem FrS.rf : FrS S S := ⟨rfl, rfl, rfl, rfl, rfl, rfl, rfl, rfl, rfl, rfl, rfl, rfl, rfl, rfl, rfl⟩
theorem FmS.rf : FmS M M := ⟨rfl, rfl, rfl, rfl, rfl, rfl, rfl, rfl, rfl, rfl⟩
theorem KR.sheets (k : KR S M) (f : FrS S S') (g : FmS M M') (hc : CLen S') (h25 : (S'.2 25).length = 40) (rs : RSh S' M') (sv : ShV M') : KR S' M' := by
  obtain ⟨c1, c2, c3, c4, c5, k6, k7, k8, k9, k10, k11, k12⟩ := k
  obtain ⟨a1, a2, a3, a4, a5, a6, a7, a8, a9, a10, a11, a12, a13, a14, a15⟩ := f
  obtain ⟨b1, b2, b3, b4, b5, b6, b7, b8, b9, b10⟩ := g
  refine ⟨hc, ?_, ?_, ?_, h25, ?_, ?_, rs, sv, ?_, k11.fr a6 a7 a8 (by rw [a15]) b5 b6 (by rw [b10]), ?_⟩
  · unfold TxInv
    rw [a2, a3, a4, a5]
    exact c2
  · unfold ImC
    rw [a15]
    exact c3
  · unfold TkL
    rw [a9, a10, a11, a12, a13, a14]
    exact c4
  · unfold RTk
    rw [a15, a9, a10, a11, b1, b2, b3, b10]
    exact k6
  · unfold RIm
    rw [a15, a12, a13, a14, b7, b8, b10]
    exact k7
  · unfold RTp
    rw [a1, a15, b4, b10]
    exact k10
  · rw [b9]; exact k12
theorem zeC_get {f : Nat → Int32} {xs : List Int32} {s : Nat} : ∀ n, 40 * s + n ≤ xs.length → ∀ y, (zeC f xs s n).getD y 0 = if 40 * s ≤ y ∧ y < 40 * s + n then f (y - 40 * s) else xs.getD y 0
  | 0, _, y => by rw [zeC, if_neg (by omega)]
  | n + 1, h, y => by
    rw [zeC, getD_set, zeC_len, zeC_get n (by omega)]
    by_cases e : 40 * s + n = y
    · subst e
      rw [if_pos ⟨rfl, by omega⟩, if_pos ⟨by omega, by omega⟩, Nat.add_sub_cancel_left]
    · rw [if_neg (fun z => e z.1)]
      by_cases q : 40 * s ≤ y ∧ y < 40 * s + n
      · rw [if_pos q, if_pos ⟨q.1, by omega⟩]
      · rw [if_neg q, if_neg (fun z => q ⟨z.1, by omega⟩)]
/-- a sheet made anew -/
theorem ShV.made {xs ys : List Int32} {f : Nat → Int32} {a : Nat} {v : Int32} (h : ShV M) (l17 : (M.2.1 17).length = 4) (l19 : (M.2.1 19).length = 160) (ha : a < 4) (hf : ∀ x, x < 40 → ceV v (f x) = f x) {c : List Int32} (hc : c = zeC f (M.2.1 19) a 40) : ShV (mR (mR (mR M 17 ((M.2.1 17).set a v)) 18 ys) 19 c) := by
  intro s hs i hi
  show ceV (((M.2.1 17).set a v).getD s 0) (c.getD (40 * s + i) 0) = c.getD (40 * s + i) 0
  rw [hc, zeC_get 40 (by omega)]
  by_cases e : a = s
  · subst e
    rw [getD_set_eq (by omega), if_pos ⟨by omega, by omega⟩]
    exact hf _ (by omega)
  · rw [getD_set_ne e, if_neg (by omega)]
    exact h s hs i hi
theorem ceV_0 (v : Int32) : ceV v 0 = 0 := by
  unfold ceV
  by_cases h0 : v = 0
  · rw [if_pos h0]; rfl
  · rw [if_neg h0]
    by_cases h1 : v = 1
    · rw [if_pos h1]; rfl
    · rw [if_neg h1]
theorem ceV_id (v x : Int32) : ceV v (ceV v x) = ceV v x := by
  unfold ceV
  by_cases h0 : v = 0
  · rw [if_pos h0, if_pos h0]
    simp
  · rw [if_neg h0, if_neg h0]
    by_cases h1 : v = 1
    · rw [if_pos h1, if_pos h1]
      simp
    · rw [if_neg h1, if_neg h1]
theorem sheet_KR (h : RInv M nt ns nk ta) (k : KR S M) (s sort n : Int32) : KR (kshG S s sort n).1 (shG M s sort n).1 ∧ (kshG S s sort n).2 = (shG M s sort n).2 := by
  obtain ⟨r1, r2⟩ := sheet_rel k.rs s sort n
  have l17 : (M.2.1 17).length = 4 := h.1.1.2.2.2.2.2.2.2.2.1
  have l19 : (M.2.1 19).length = 160 := h.1.1.2.2.2.2.2.2.2.2.2.2.1
  refine ⟨?_, r2⟩
  unfold kshG shG at r1 ⊢
  by_cases q : p3P s ∧ m2P sort ∧ (sort = -1 ∨ n ≤ 40)
  · rw [if_pos q, if_pos q] at r1 ⊢
    by_cases q2 : ¬ sort = -1 ∧ n < 0
    · rw [if_pos q2, if_pos q2] at r1 ⊢
      exact k
    · rw [if_neg q2, if_neg q2] at r1 ⊢
      obtain ⟨a, ha, rfl⟩ := in03n q.1
      rw [nI_clamp (by omega)] at r1 ⊢
      revert r1
      unfold kmkS shM
      obtain ⟨c, hc⟩ : ∃ c, c = zeC (fun _ => 0) (S.2 24) a 40 := ⟨_, rfl⟩
      obtain ⟨d, hd⟩ : ∃ d, d = zeC (fun _ => 0) (M.2.1 19) a 40 := ⟨_, rfl⟩
      rw [← hc, ← hd]
      intro r1
      refine k.sheets FrS.rf FmS.rf ?_ k.2.2.2.2.1 r1 ?_
      · exact ((k.cl.row 22 _ (by rw [List.length_set]; exact k.cl 22)).row 23 _ (by rw [List.length_set]; exact k.cl 23)).row 24 _ (by rw [hc, zeC_len]; exact k.cl 24)
      · exact k.sv.made (xs := []) l17 l19 ha (fun x _ => ceV_0 sort) hd
  · rw [if_neg q, if_neg q] at r1 ⊢
    exact k
theorem cell_KR (h : RInv M nt ns nk ta) (k : KR S M) (s i v : Int32) : KR (kceG S s i v).1 (ceG M s i v).1 ∧ (kceG S s i v).2 = (ceG M s i v).2 := by
  obtain ⟨r1, r2⟩ := cell_rel h.2.2.1 k.rs s i v
  have l19 : (M.2.1 19).length = 160 := h.1.1.2.2.2.2.2.2.2.2.2.2.1
  have hs := h.2.2.1
  refine ⟨?_, r2⟩
  have f1 : FrS S (kceG S s i v).1 := by
    unfold kceG
    split
    · split
      · exact FrS.rf
      · split
        · exact FrS.rf (S := S)
        · exact FrS.rf
    · exact FrS.rf
  have f2 : FmS M (ceG M s i v).1 := by
    unfold ceG
    split
    · split
      · exact FmS.rf
      · split
        · exact FmS.rf (M := M)
        · exact FmS.rf
    · exact FmS.rf
  have f3 : CLen (kceG S s i v).1 ∧ ((kceG S s i v).1.2 25).length = 40 := by
    unfold kceG
    split
    · split
      · exact ⟨k.cl, k.2.2.2.2.1⟩
      · split
        · exact ⟨k.cl.row 24 _ (by rw [putF_len]; exact k.cl 24), k.2.2.2.2.1⟩
        · exact ⟨k.cl, k.2.2.2.2.1⟩
    · exact ⟨k.cl, k.2.2.2.2.1⟩
  refine k.sheets f1 f2 f3.1 f3.2 r1 ?_
  unfold ceG
  by_cases q : p3P s
  · rw [if_pos q]
    obtain ⟨a, ha, rfl⟩ := in03n q
    obtain ⟨hm, z, hz, ez⟩ := hs a ha
    rw [nI_clamp (by omega), ez]
    by_cases q2 : (M.2.1 17).getD a 0 = -1
    · rw [if_pos q2]; exact k.sv
    · rw [if_neg q2]
      by_cases q3 : tP z i
      · rw [if_pos (show (0 : Int32) ≤ i ∧ i ≤ nI z - 1 from q3)]
        obtain ⟨b, hb, rfl⟩ := inN (by omega) q3
        rw [nI_clamp (by omega)]
        intro s' hs' i' hi'
        show ceV ((M.2.1 17).getD s' 0) (((M.2.1 19).set (40 * a + b) (ceV ((M.2.1 17).getD a 0) v)).getD (40 * s' + i') 0) = ((M.2.1 19).set (40 * a + b) (ceV ((M.2.1 17).getD a 0) v)).getD (40 * s' + i') 0
        by_cases e : 40 * a + b = 40 * s' + i'
        · have ea : a = s' := by omega
          subst ea
          rw [← e, getD_set_eq (by omega)]
          exact ceV_id _ _
        · rw [getD_set_ne e]
          exact k.sv s' hs' i' hi'
      · rw [if_neg (show ¬ ((0 : Int32) ≤ i ∧ i ≤ nI z - 1) from q3)]; exact k.sv
  · rw [if_neg q]; exact k.sv
theorem film_KR (h : RInv M nt ns nk ta) (k : KR S M) (s : Int32) : KR (kfiG S nk s).1 (fiG M nk s).1 ∧ (kfiG S nk s).2 = (fiG M nk s).2 := by
  have l17 : (M.2.1 17).length = 4 := h.1.1.2.2.2.2.2.2.2.2.1
  have l19 : (M.2.1 19).length = 160 := h.1.1.2.2.2.2.2.2.2.2.2.2.1
  obtain ⟨s1, s2, s3⟩ := k.rs
  have t4 := k.rt.2.2.2.2.2
  unfold kfiG fiG
  by_cases q : p3P s
  · rw [if_pos q, if_pos q]
    obtain ⟨a, ha, rfl⟩ := in03n q
    rw [nI_clamp (by omega)]
    refine ⟨?_, rfl⟩
    show KR (kfiS S nk a) (fiM M nk a)
    unfold kfiS fiM
    have ecd : zeC (fiC S (3 * nk)) (S.2 24) a 40 = zeC (fiV M nk) (M.2.1 19) a 40 := by
      rw [s3]
      refine zeC_congr 40 (fun x _ => ?_)
      unfold fiC fiV
      rw [t4]
    rw [ecd]
    obtain ⟨d, hd⟩ : ∃ d, d = zeC (fiV M nk) (M.2.1 19) a 40 := ⟨_, rfl⟩
    rw [← hd]
    refine k.sheets FrS.rf FmS.rf ?_ k.2.2.2.2.1 ⟨?_, ?_, rfl⟩ ?_
    · exact ((k.cl.row 22 _ (by rw [List.length_set]; exact k.cl 22)).row 23 _ (by rw [List.length_set]; exact k.cl 23)).row 24 _ (by rw [hd, zeC_len, l19]; decide)
    · show (S.2 22).set a 2 = (M.2.1 17).set a 2
      rw [s1]
    · show (S.2 23).set a (nI (3 * nk)) = (M.2.1 18).set a (nI (3 * nk))
      rw [s2]
    · exact k.sv.made (xs := []) (v := 2) l17 l19 ha (fun x _ => rfl) hd
  · rw [if_neg q, if_neg q]
    exact ⟨k, rfl⟩
theorem coC_get {xs : List Int32} {a b n : Nat} (hb : b + n ≤ xs.length) : ∀ k, k ≤ n → ∀ y, (coC xs a b n k).getD y 0 = if b + (if a < b then n - k else 0) ≤ y ∧ y < b + (if a < b then n else k) then xs.getD (a + (y - b)) 0 else xs.getD y 0
  | 0, _, y => by
    rw [coC]
    by_cases q : a < b
    · rw [if_pos q, if_pos q, if_neg (by omega)]
    · rw [if_neg q, if_neg q, if_neg (by omega)]
  | k + 1, hk, y => by
    rw [coC, getD_set, coC_len, coC_get hb k (by omega), coC_get hb k (by omega)]
    unfold coX
    by_cases q : a < b
    · simp only [if_pos q]
      by_cases e : b + (n - 1 - k) = y
      · subst e
        rw [if_pos ⟨rfl, by omega⟩, if_neg (by omega), if_pos (by omega)]
        congr 1
        omega
      · rw [if_neg (fun z => e z.1)]
        by_cases q2 : b + (n - k) ≤ y ∧ y < b + n
        · rw [if_pos q2, if_pos (by omega)]
        · rw [if_neg q2, if_neg (by omega)]
    · simp only [if_neg q]
      by_cases e : b + k = y
      · subst e
        rw [if_pos ⟨rfl, by omega⟩, if_neg (by omega), if_pos (by omega)]
        congr 1
        omega
      · rw [if_neg (fun z => e z.1)]
        by_cases q2 : b + 0 ≤ y ∧ y < b + k
        · rw [if_pos q2, if_pos (by omega)]
        · rw [if_neg q2, if_neg (by omega)]
theorem cp_co {xs : List Int32} {a b n : Nat} (hb : b + n ≤ xs.length) : cpC xs xs a b n = coC xs a b n n := by
  refine ext_getD ((cpC_len n).trans (coC_len n).symm) (fun y _ => ?_)
  rw [cpC_get n hb, coC_get hb n (Nat.le_refl _)]
  by_cases q : a < b
  · simp only [if_pos q, Nat.sub_self, Nat.add_zero]
  · simp only [if_neg q, Nat.add_zero]
theorem le_sub_i {n i : Int32} {z : Nat} (hz : z ≤ 40) (hi : ¬ i < 0) : n ≤ nI z - i ↔ n.toInt ≤ z - i.toInt := by
  have g1 := Int32.le_iff_toInt_le.mp (Int32.not_lt.mp hi)
  have e0 : (0 : Int32).toInt = 0 := by decide
  have e5 : (nI z - i).toInt = z - i.toInt := by
    rw [Int32.toInt_sub, nI_toInt (by omega)]
    have := Int32.toInt_lt i
    apply Int.bmod_eq_of_le <;> omega
  rw [Int32.le_iff_toInt_le, e5]
theorem co_iff (hs : ShOk M) (r : RSh S M) {a b : Nat} (ha : a < 4) (hb : b < 4) (i j n : Int32) : coiP S (nI a) i (nI b) j n ↔ coP M (nI a) i (nI b) j n := by
  obtain ⟨-, z, hz, ez⟩ := hs a ha
  obtain ⟨-, y, hy, ey⟩ := hs b hb
  unfold coiP coP hrP
  rw [r.2.1, atF_n (by omega), atF_n (by omega), nI_clamp (by omega), nI_clamp (by omega), ez, ey]
  have e0 : (0 : Int32).toInt = 0 := by decide
  by_cases hn : n < 0
  · exact ⟨fun h => absurd hn h.1.1, fun h => absurd hn h.1⟩
  by_cases hi : i < 0
  · exact ⟨fun h => absurd hi h.1.2.1, fun h => absurd hi h.2.1⟩
  by_cases hj : j < 0
  · exact ⟨fun h => absurd hj h.2.2.1, fun h => absurd hj h.2.2.1⟩
  rw [le_sub_i hz hn, le_sub_i hy hn, le_sub_i hz hi, le_sub_i hy hj, Int32.le_iff_toInt_le, Int32.le_iff_toInt_le, Int32.le_iff_toInt_le, Int32.le_iff_toInt_le, nI_toInt (by omega), nI_toInt (by omega)]
  have g1 := Int32.le_iff_toInt_le.mp (Int32.not_lt.mp hn)
  have g2 := Int32.le_iff_toInt_le.mp (Int32.not_lt.mp hi)
  have g3 := Int32.le_iff_toInt_le.mp (Int32.not_lt.mp hj)
  constructor
  · rintro ⟨⟨-, -, h3, h4⟩, -, -, h5, h6⟩
    exact ⟨hn, hi, hj, by omega, by omega, by omega, by omega⟩
  · rintro ⟨-, -, -, h3, h4, h5, h6⟩
    exact ⟨⟨hn, hi, by omega, by omega⟩, hn, hj, by omega, by omega⟩
theorem ShV.shc (h : ShV M) (r : RSh S M) : ShC S := by
  intro s hs i hi
  have := h s hs i hi
  unfold wrV
  rw [r.1, r.2.2, atF_n (by omega)]
  exact this
theorem copy_KR (h : RInv M nt ns nk ta) (k : KR S M) (s i o j n : Int32) : kcoA S s i o j n = (coG M s i o j n).2 ∧ ∀ S', kcoP S s i o j n S' → KR S' (coG M s i o j n).1 := by
  have l19 : (M.2.1 19).length = 160 := h.1.1.2.2.2.2.2.2.2.2.2.2.1
  have hs := h.2.2.1
  have rs := k.rs
  unfold kcoA coG kcoP coyP
  by_cases q : p3P s ∧ p3P o
  · have qc : cobP S s o := ⟨x4_iff.mpr q.1, x4_iff.mpr q.2⟩
    rw [if_pos qc, if_pos q]
    obtain ⟨a, ha, rfl⟩ := in03n q.1
    obtain ⟨b, hb, rfl⟩ := in03n q.2
    have em : comP S (nI a) (nI b) ↔ ((M.2.1 17).getD (nI a).toNatClampNeg 0 = -1 ∨ (M.2.1 17).getD (nI b).toNatClampNeg 0 = -1) := by
      unfold comP
      rw [rs.1, atF_n (by omega), atF_n (by omega), nI_clamp (by omega), nI_clamp (by omega)]
    by_cases q2 : comP S (nI a) (nI b)
    · rw [if_pos q2, if_pos (em.mp q2)]
      exact ⟨rfl, fun S' hS' => by rw [hS'.2 (fun z => z.2.1 q2)]; exact k⟩
    · rw [if_neg q2, if_neg (fun z => q2 (em.mpr z))]
      have ee : atF (S.2 22) (nI a) = atF (S.2 22) (nI b) ↔ (M.2.1 17).getD (nI a).toNatClampNeg 0 = (M.2.1 17).getD (nI b).toNatClampNeg 0 := by
        rw [rs.1, atF_n (by omega), atF_n (by omega), nI_clamp (by omega), nI_clamp (by omega)]
      by_cases q3 : atF (S.2 22) (nI a) = atF (S.2 22) (nI b)
      · rw [if_pos q3, if_pos (ee.mp q3)]
        have ei := co_iff hs rs ha hb i j n
        by_cases q4 : coiP S (nI a) i (nI b) j n
        · rw [if_pos q4, if_pos (ei.mp q4)]
          refine ⟨rfl, fun S' hS' => ?_⟩
          obtain ⟨r25, lr, rfl⟩ := hS'.1 ⟨qc, q2, q3, q4⟩
          obtain ⟨-, z, hz, ez⟩ := hs a ha
          obtain ⟨-, y, hy, ey⟩ := hs b hb
          obtain ⟨i', n', rfl, rfl, hin⟩ := hr_nat (S := S) (s := nI a) (a := a) hz (by rw [rs.2.1, atF_n (by omega)]; exact ez) q4.1
          obtain ⟨j', n2, rfl, en, hjn⟩ := hr_nat (S := S) (s := nI b) (a := b) hy (by rw [rs.2.1, atF_n (by omega)]; exact ey) q4.2
          have en := nI_inj (by omega) (by omega) en
          subst en
          have eso : (M.2.1 17).getD a 0 = (M.2.1 17).getD b 0 := by
            have := ee.mp q3
            rw [nI_clamp (by omega), nI_clamp (by omega)] at this
            exact this
          rw [nI_clamp (by omega), nI_clamp (by omega), nI_clamp (by omega), nI_clamp (by omega), nI_clamp (by omega)]
          have ecp : cpC (S.2 24) (S.2 24) (40 * a + i') (40 * b + j') n' = coC (M.2.1 19) (40 * a + i') (40 * b + j') n' n' := by
            rw [rs.2.2]
            exact cp_co (by omega)
          have eget := coC_get (xs := M.2.1 19) (a := 40 * a + i') (b := 40 * b + j') (n := n') (by omega) n' (Nat.le_refl _)
          rw [ecp]
          have lc : (coC (M.2.1 19) (40 * a + i') (40 * b + j') n' n').length = 160 := (coC_len n').trans l19
          generalize coC (M.2.1 19) (40 * a + i') (40 * b + j') n' n' = c at eget lc
          refine k.sheets FrS.rf FmS.rf ?_ lr ⟨rs.1, rs.2.1, rfl⟩ ?_
          · exact (k.cl.row 25 _ (by rw [lr]; decide)).row 24 _ (by rw [lc]; decide)
          · intro s' hs' x hx
            show ceV ((M.2.1 17).getD s' 0) (c.getD (40 * s' + x) 0) = c.getD (40 * s' + x) 0
            rw [eget]
            by_cases q5 : 40 * b + j' + (if 40 * a + i' < 40 * b + j' then n' - n' else 0) ≤ 40 * s' + x ∧ 40 * s' + x < 40 * b + j' + (if 40 * a + i' < 40 * b + j' then n' else n')
            · rw [if_pos q5]
              have q6 : 40 * b + j' ≤ 40 * s' + x ∧ 40 * s' + x < 40 * b + j' + n' := by
                revert q5
                by_cases q7 : 40 * a + i' < 40 * b + j'
                · rw [if_pos q7, if_pos q7, Nat.sub_self]; exact fun z => ⟨by omega, by omega⟩
                · rw [if_neg q7, if_neg q7]; exact fun z => ⟨by omega, by omega⟩
              have eb : s' = b := by omega
              subst eb
              have := k.sv a ha (i' + (x - j')) (by omega)
              rw [eso] at this
              rw [show 40 * a + i' + (40 * s' + x - (40 * s' + j')) = 40 * a + (i' + (x - j')) by omega]
              exact this
            · rw [if_neg q5]
              exact k.sv s' hs' x hx
        · rw [if_neg q4, if_neg (fun z => q4 (ei.mpr z))]
          exact ⟨rfl, fun S' hS' => by rw [hS'.2 (fun z => q4 z.2.2.2)]; exact k⟩
      · rw [if_neg q3, if_neg (fun z => q3 (ee.mpr z))]
        exact ⟨rfl, fun S' hS' => by rw [hS'.2 (fun z => q3 z.2.2.1)]; exact k⟩
  · rw [if_neg (fun z => q ⟨x4_iff.mp z.1, x4_iff.mp z.2⟩), if_neg q]
    exact ⟨rfl, fun S' hS' => by rw [hS'.2 (fun z => q ⟨x4_iff.mp z.1.1, x4_iff.mp z.1.2⟩)]; exact k⟩
end KRT
