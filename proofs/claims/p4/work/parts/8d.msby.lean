/-! THE REFERENCE in general: sayings by a sheet, copies -/
section MSBY
variable {l : Launch} {X : List (List Int32)} {S : CS} {M : MS} {hp : AH} {nt ns nk : Nat}
/-- a saying said keeps what always holds; how many there are then -/
theorem syG_inv (h : MInv M nt ns nk) (s t u : Int32) : ∃ nk', MInv (syG M nt ns nk s t u).1 nt ns nk' ∧ (syG M nt ns nk s t u).1.2.1 17 = M.2.1 17 ∧ (syG M nt ns nk s t u).1.2.1 18 = M.2.1 18 ∧ (syG M nt ns nk s t u).1.2.1 19 = M.2.1 19 ∧ nk' = (if 0 ≤ (syG M nt ns nk s t u).2 then nk + 1 else nk) := by
  obtain ⟨h0, h5⟩ := h.2.2.2.1
  obtain ⟨h3, h12⟩ := h.2.2.2.2.1
  have h6 := h.2.2.1.2.2
  unfold syG
  by_cases q : tP ns s ∧ tP nt t
  · rw [if_pos q]
    by_cases q2 : p1P u
    · rw [if_pos q2]
      by_cases e : nk = 12
      · rw [if_pos e]
        exact ⟨nk, h, rfl, rfl, rfl, by rw [if_neg (show ¬ (0 : Int32) ≤ -4 by decide)]⟩
      · rw [if_neg e]
        obtain ⟨a, ha, rfl⟩ := inN (by omega) q.1
        obtain ⟨b, hb, rfl⟩ := inN (by omega) q.2
        obtain ⟨c, hc, rfl⟩ := inC (c := 1) (n := 1) (by decide) (by decide) q2
        refine ⟨nk + 1, syM_inv h (by omega) (by omega) hb (by omega), rfl, rfl, rfl, ?_⟩
        rw [if_pos (show (0 : Int32) ≤ nI nk from nI_pos' (by omega))]
    · rw [if_neg q2]
      exact ⟨nk, h, rfl, rfl, rfl, by rw [if_neg (show ¬ (0 : Int32) ≤ -7 by decide)]⟩
  · rw [if_neg q]
    exact ⟨nk, h, rfl, rfl, rfl, by rw [if_neg (show ¬ (0 : Int32) ≤ -5 by decide)]⟩
/-- the sayings of a sheet's rows, one behind the other: the state, how many there are, how many came; whether all were inside -/
abbrev SB : Type := MS × Nat × Nat
abbrev sbP (sz : Int32) (fr : Int32) (k : Nat) : Prop := fr < 0 ∨ fr + Int32.ofInt 3 * nI k < fr ∨ sz - Int32.ofInt 3 < fr + Int32.ofInt 3 * nI k
def sbS (nt ns : Nat) (c : Nat) (Q : SB) : SB :=
  ((syG Q.1 nt ns Q.2.1 (ceA Q.1 c) (ceA Q.1 (c + 1)) (ceA Q.1 (c + 2))).1,
   (if 0 ≤ (syG Q.1 nt ns Q.2.1 (ceA Q.1 c) (ceA Q.1 (c + 1)) (ceA Q.1 (c + 2))).2 then Q.2.1 + 1 else Q.2.1),
   (if 0 ≤ (syG Q.1 nt ns Q.2.1 (ceA Q.1 c) (ceA Q.1 (c + 1)) (ceA Q.1 (c + 2))).2 then Q.2.2 + 1 else Q.2.2))
def sbF (nt ns s : Nat) (sz fr : Int32) : Nat → Nat → SB → MS × Int32
  | 0, _, Q => (Q.1, nI Q.2.2)
  | m + 1, k, Q => if sbP sz fr k then (Q.1, -12) else sbF nt ns s sz fr m (k + 1) (sbS nt ns (40 * s + (fr + Int32.ofInt 3 * nI k).toNatClampNeg) Q)
def sbG (M : MS) (nt ns nk : Nat) (s sort fr n : Int32) : MS × Int32 := if p3P s ∧ p2P sort ∧ ((0 : Int32) ≤ n ∧ n ≤ 12) then (if (M.2.1 17).getD s.toNatClampNeg 0 = -1 then (M, -11) else if (M.2.1 17).getD s.toNatClampNeg 0 = sort then sbF nt ns s.toNatClampNeg ((M.2.1 18).getD s.toNatClampNeg 0) fr n.toNatClampNeg 0 (M, nk, 0) else (M, -13)) else (M, -2)
/-- a row of a sheet lies in it -/
theorem sb_in {zz k : Nat} {fr : Int32} (hz : zz ≤ 40) (hp : ¬ sbP (nI zz) fr k) : ∃ i : Nat, i + 3 ≤ zz ∧ fr + Int32.ofInt 3 * nI k = nI i := by
  have h1 : (0 : Int32) ≤ fr := Int32.not_lt.mp (fun z => hp (Or.inl z))
  have h2 : fr ≤ fr + Int32.ofInt 3 * nI k := Int32.not_lt.mp (fun z => hp (Or.inr (Or.inl z)))
  have h3 : fr + Int32.ofInt 3 * nI k ≤ nI zz - Int32.ofInt 3 := Int32.not_lt.mp (fun z => hp (Or.inr (Or.inr z)))
  have h4 := Int32.le_trans h1 h2
  have g1 := Int32.le_iff_toInt_le.mp h4
  have g2 := Int32.le_iff_toInt_le.mp h3
  have e0 : (0 : Int32).toInt = 0 := by decide
  have e3 : (nI zz - Int32.ofInt 3).toInt = (zz : Int) - 3 := by
    have a : ∀ z : Fin 41, (nI z.val - Int32.ofInt 3).toInt = (z.val : Int) - 3 := by decide +kernel
    exact a ⟨zz, by omega⟩
  refine ⟨(fr + Int32.ofInt 3 * nI k).toInt.toNat, by omega, Int32.toInt_inj.mp ?_⟩
  rw [nI_toInt (by omega)]
  omega
def cNsb (i : Nat) : Bool := Nat.beq i 37 || Nat.beq i 90
set_option maxRecDepth 100000 in
set_option maxHeartbeats 2000000 in
theorem g_sayingsBy (h : MInv M nt ns nk) (hs : ShOk M) (s sort fr n : Int32) : Ctr l 3 X sgX8_sayingsBy [.ref 27, .int s, .int sort, .int fr, .int n] (mk S M) (rsQ S (sbG M nt ns nk s sort fr n)) := by
  have l17 : (M.2.1 17).length = 4 := h.1.2.2.2.2.2.2.2.2.1
  have l18 : (M.2.1 18).length = 4 := h.1.2.2.2.2.2.2.2.2.2.1
  refine Ctr.of okX8_sayingsBy rfl (Nat.le_of_ble_eq_true rfl) (run_sound okX8_sayingsBy cNsb 200 ?_)
  refine kH (m_in _ _ _) (by decide) (brB' (fun q => rs_i (if_neg (fun z => q z.1)) rfl) (fun q => kH (m_in _ _ _) (by decide) (brB' (fun q2 => rs_i (if_neg (fun z => q2 z.2.1)) rfl) (fun q2 => kH (m_in _ _ _) (by decide) (brB' (fun q3 => rs_i (if_neg (fun z => q3 z.2.2)) rfl) (fun q3 => ?_))))))
  rw [show sbG M nt ns nk s sort fr n = if (M.2.1 17).getD s.toNatClampNeg 0 = -1 then (M, -11) else if (M.2.1 17).getD s.toNatClampNeg 0 = sort then sbF nt ns s.toNatClampNeg ((M.2.1 18).getD s.toNatClampNeg 0) fr n.toNatClampNeg 0 (M, nk, 0) else (M, -13) from if_pos ⟨q, q2, q3⟩]
  obtain ⟨a, ha, rfl⟩ := in03n q
  obtain ⟨m, hm, rfl⟩ := inC (c := 12) (n := 12) (by decide) (by decide) q3
  have en : (nI a).toNatClampNeg = a := nI_clamp (by omega)
  have em : (nI m).toNatClampNeg = m := nI_clamp (by omega)
  obtain ⟨hso, zz, hzz, hsz⟩ := hs a ha
  have va : ∀ xs : List Int32, xs.length = 4 → vp_in (nI a) xs.length := fun xs e => by rw [e]; exact vp_nI ha (by decide)
  have g17 : (M.2.1 17).getD (nI a).toNatClampNeg 0 = (M.2.1 17).getD a 0 := by rw [en]
  rw [en, em, hsz]
  refine Exists.intro _ (And.intro rfl (And.intro (va _ l17) (br (fun p => rs_i (if_pos ?_) rfl) (fun p => Exists.intro _ (And.intro rfl (And.intro (va _ l17) (br (fun p2 => ?_) (fun p2 => rs_i ((if_neg ?_).trans (if_neg ?_)) rfl))))))))
  · rw [← g17]; exact p
  · have p : ¬ (M.2.1 17).getD (nI a).toNatClampNeg 0 = -1 := p
    have p2 : (M.2.1 17).getD (nI a).toNatClampNeg 0 = sort := p2
    rw [g17] at p p2
    rw [if_neg p, if_pos p2]
    obtain ⟨V, hV⟩ : ∃ V, sbF nt ns a (nI zz) fr m 0 (M, nk, 0) = V := ⟨_, rfl⟩
    rw [hV]
    have key : ∀ k, k ≤ m → ∀ (Q : SB), MInv Q.1 nt ns Q.2.1 → Q.1.2.1 17 = M.2.1 17 → Q.1.2.1 18 = M.2.1 18 → sbF nt ns a (nI zz) fr (m - k) k Q = V → ∀ x7 x8, WP l (rmD 3 0 0) X sgX8_sayingsBy kX8_sayingsBy (rsQ S V) 37 [some (.ref 27), some (.int (nI a)), some (.int sort), some (.int fr), some (.int (nI m)), some (.int (nI Q.2.2)), some (.int (nI k)), x7, x8] [] (mk S Q.1) 0 0 := by
      refine down (fun Q hQ q17 q18 e x7 x8 => ?_) (fun k hk ih Q hQ q17 q18 e x7 x8 => ?_)
      · rw [Nat.sub_self] at e
        have e : (Q.1, nI Q.2.2) = V := e
        subst e
        exact run_sound okX8_sayingsBy cNsb 200 (brT (Int32.le_refl _) ⟨rfl, rfl⟩)
      · rw [show m - k = (m - (k + 1)) + 1 by omega, sbF] at e
        have l18q : (Q.1.2.1 18).length = 4 := by rw [q18]; exact l18
        have g18 : (Q.1.2.1 18).getD (nI a).toNatClampNeg 0 = nI zz := by rw [en, q18]; exact hsz
        have l19 : (Q.1.2.1 19).length = 160 := hQ.1.2.2.2.2.2.2.2.2.2.2.1
        have out : sbP (nI zz) fr k → rsQ S V (mk S Q.1) (some (.int (-12))) := fun y => by
          rw [if_pos y] at e
          subst e
          exact ⟨rfl, rfl⟩
        refine run_sound okX8_sayingsBy cNsb 200 (brF (nI_ge hk (by omega)) (br (fun y => out (Or.inl y)) (fun y1 => br (fun y => out (Or.inr (Or.inl y))) (fun y2 => Exists.intro _ (And.intro rfl (And.intro (va _ l18q) (br (fun y3 => ?_) (fun y => out (Or.inr (Or.inr ?_))))))))))
        · have y3 : fr + Int32.ofInt 3 * nI k ≤ (Q.1.2.1 18).getD (nI a).toNatClampNeg 0 - Int32.ofInt 3 := y3
          rw [g18] at y3
          have no : ¬ sbP (nI zz) fr k := fun y => y.elim y1 (fun y => y.elim y2 (fun y => absurd y (Int32.not_lt.mpr y3)))
          rw [if_neg no] at e
          obtain ⟨i, hi, ei⟩ := sb_in hzz no
          obtain ⟨ir, hir⟩ : ∃ ir, fr + Int32.ofInt 3 * nI k = ir := ⟨_, rfl⟩
          have e0 : Int32.ofInt 40 * nI a + (fr + Int32.ofInt 3 * nI k) = nI (40 * a + i) := by rw [ei]; exact cel_ix ha (by omega)
          have e1 : Int32.ofInt 40 * nI a + (fr + Int32.ofInt 3 * nI k) + Int32.ofInt 1 = nI (40 * a + i + 1) := by rw [e0]; exact nI_1 _
          have e2 : Int32.ofInt 40 * nI a + (fr + Int32.ofInt 3 * nI k) + Int32.ofInt 2 = nI (40 * a + i + 2) := by rw [e0]; exact nI_add _ 2
          have v0 : vp_in (Int32.ofInt 40 * nI a + (fr + Int32.ofInt 3 * nI k)) (Q.1.2.1 19).length := by rw [e0, l19]; exact vp_nI (by omega) (by decide)
          have v1 : vp_in (Int32.ofInt 40 * nI a + (fr + Int32.ofInt 3 * nI k) + Int32.ofInt 1) (Q.1.2.1 19).length := by rw [e1, l19]; exact vp_nI (by omega) (by decide)
          have v2 : vp_in (Int32.ofInt 40 * nI a + (fr + Int32.ofInt 3 * nI k) + Int32.ofInt 2) (Q.1.2.1 19).length := by rw [e2, l19]; exact vp_nI (by omega) (by decide)
          have ec : (fr + Int32.ofInt 3 * nI k).toNatClampNeg = i := by rw [ei, nI_clamp (by omega)]
          rw [ec] at e
          have hsay : Ctr l 2 X sgX8_say [.ref 27, .int ((Q.1.2.1 19).getD (Int32.ofInt 40 * nI a + (fr + Int32.ofInt 3 * nI k)).toNatClampNeg 0), .int ((Q.1.2.1 19).getD (Int32.ofInt 40 * nI a + (fr + Int32.ofInt 3 * nI k) + Int32.ofInt 1).toNatClampNeg 0), .int ((Q.1.2.1 19).getD (Int32.ofInt 40 * nI a + (fr + Int32.ofInt 3 * nI k) + Int32.ofInt 2).toNatClampNeg 0)] (mk S Q.1) (rsQ S (syG Q.1 nt ns Q.2.1 (ceA Q.1 (40 * a + i)) (ceA Q.1 (40 * a + i + 1)) (ceA Q.1 (40 * a + i + 2)))) := by
            rw [e2, e1, e0, nI_clamp (by omega), nI_clamp (by omega), nI_clamp (by omega)]
            exact g_say hQ _ _ _
          obtain ⟨nk', hinv, i17, i18, i19, hnk⟩ := syG_inv hQ (ceA Q.1 (40 * a + i)) (ceA Q.1 (40 * a + i + 1)) (ceA Q.1 (40 * a + i + 2))
          have hsb : sbS nt ns (40 * a + i) Q = ((syG Q.1 nt ns Q.2.1 (ceA Q.1 (40 * a + i)) (ceA Q.1 (40 * a + i + 1)) (ceA Q.1 (40 * a + i + 2))).1, nk', if 0 ≤ (syG Q.1 nt ns Q.2.1 (ceA Q.1 (40 * a + i)) (ceA Q.1 (40 * a + i + 1)) (ceA Q.1 (40 * a + i + 2))).2 then Q.2.2 + 1 else Q.2.2) := by
            unfold sbS
            rw [← hnk]
          rw [hsb] at e
          clear hsb hnk
          generalize syG Q.1 nt ns Q.2.1 (ceA Q.1 (40 * a + i)) (ceA Q.1 (40 * a + i + 1)) (ceA Q.1 (40 * a + i + 2)) = R at hsay hinv i17 i18 i19 e
          refine Exists.intro _ (And.intro rfl (And.intro v0 (Exists.intro _ (And.intro rfl (And.intro v1 (Exists.intro _ (And.intro rfl (And.intro v2 ⟨2, _, by decide, hsay, ?_⟩))))))))
          rintro hp' w ⟨rfl, rfl⟩
          have ih := ih _ hinv (i17.trans q17) (i18.trans q18) e (some (.int (fr + Int32.ofInt 3 * nI k))) (some (.int (Int32.ofInt 40 * nI a + (fr + Int32.ofInt 3 * nI k))))
          refine br (fun y => ?_) (fun y => ?_)
          · have y : R.2 < 0 := y
            have ih : WP l (rmD 3 0 0) X sgX8_sayingsBy kX8_sayingsBy (rsQ S V) 37 [some (.ref 27), some (.int (nI a)), some (.int sort), some (.int fr), some (.int (nI m)), some (.int (nI (if 0 ≤ R.2 then Q.2.2 + 1 else Q.2.2))), some (.int (nI (k + 1))), some (.int (fr + Int32.ofInt 3 * nI k)), some (.int (Int32.ofInt 40 * nI a + (fr + Int32.ofInt 3 * nI k)))] [] (mk S R.1) 0 0 := ih
            rw [if_neg (fun z => absurd y (Int32.not_lt.mpr z)), ← nI_1 k, show nI Q.2.2 = nI Q.2.2 + 0 from (Int32.add_zero _).symm] at ih
            exact run_sound okX8_sayingsBy (fun i => Nat.beq i 37) 200 ih
          · have y : ¬ R.2 < 0 := y
            have ih : WP l (rmD 3 0 0) X sgX8_sayingsBy kX8_sayingsBy (rsQ S V) 37 [some (.ref 27), some (.int (nI a)), some (.int sort), some (.int fr), some (.int (nI m)), some (.int (nI (if 0 ≤ R.2 then Q.2.2 + 1 else Q.2.2))), some (.int (nI (k + 1))), some (.int (fr + Int32.ofInt 3 * nI k)), some (.int (Int32.ofInt 40 * nI a + (fr + Int32.ofInt 3 * nI k)))] [] (mk S R.1) 0 0 := ih
            rw [if_pos (Int32.not_lt.mp y), ← nI_1 k, ← nI_1 Q.2.2] at ih
            exact run_sound okX8_sayingsBy (fun i => Nat.beq i 37) 200 ih
        · have y : ¬ fr + Int32.ofInt 3 * nI k ≤ (Q.1.2.1 18).getD (nI a).toNatClampNeg 0 - Int32.ofInt 3 := y
          rw [g18] at y
          exact Int32.not_le.mp y
    exact key 0 (Nat.zero_le _) (M, nk, 0) h rfl rfl hV none none
  · rw [← g17]; exact p
  · rw [← g17]; exact p2
end MSBY
