/-! THE REFERENCE in general: told talks, copies, sayings by a sheet -/
section MROW
variable {l : Launch} {X : List (List Int32)} {S : CS} {M : MS} {hp : AH} {nt ns nk : Nat}
abbrev ceA (M : MS) (c : Nat) : Int32 := (M.2.1 19).getD c 0
abbrev irP (M : MS) (nt ns c : Nat) (n w : Int32) : Prop := tP ns (ceA M c) ∧ tP nt (ceA M (c + 1)) ∧ p1P (ceA M (c + 2)) ∧ hsP (fitT M (ceA M c).toNatClampNeg (ceA M (c + 1)).toNatClampNeg (ceA M (c + 2)).toNatClampNeg n) w
set_option maxRecDepth 100000 in
set_option maxHeartbeats 1000000 in
theorem g_isRow (h : MInv M nt ns nk) {z : SZ} (hz : ScOk z) (hzm : Mt (sc M z) nt) {c : Nat} (hc : c + 2 < 160) (n w : Int32) : Ans l 2 X sgX8_isRow [.ref 27, .int (nI c), .int n, .int w] (mk S (sc M z)) (bI (irP M nt ns c n w)) := by
  obtain ⟨h0, h5⟩ := h.2.2.2.1
  have h6 := h.2.2.1.2.2
  have l19 : (M.2.1 19).length = 160 := h.1.2.2.2.2.2.2.2.2.2.2.1
  have i1 : nI c + Int32.ofInt 1 = nI (c + 1) := nI_1 c
  have i2 : nI c + Int32.ofInt 2 = nI (c + 2) := nI_add c 2
  have v0 : vp_in (nI c) (M.2.1 19).length := by rw [l19]; exact vp_nI (by omega) (by decide)
  have v1 : vp_in (nI c + Int32.ofInt 1) (M.2.1 19).length := by rw [i1, l19]; exact vp_nI (by omega) (by decide)
  have v2 : vp_in (nI c + Int32.ofInt 2) (M.2.1 19).length := by rw [i2, l19]; exact vp_nI (by omega) (by decide)
  have g0 : (M.2.1 19).getD (nI c).toNatClampNeg 0 = ceA M c := by rw [nI_clamp (by omega)]
  have g1 : (M.2.1 19).getD (nI c + Int32.ofInt 1).toNatClampNeg 0 = ceA M (c + 1) := by rw [i1, nI_clamp (by omega)]
  have g2 : (M.2.1 19).getD (nI c + Int32.ofInt 2).toNatClampNeg 0 = ceA M (c + 2) := by rw [i2, nI_clamp (by omega)]
  have hs : Ans l 1 X sgX8_isSpeaker [.ref 27, .int ((M.2.1 19).getD (nI c).toNatClampNeg 0)] (mk S (sc M z)) (bI (tP ns (ceA M c))) := by rw [g0]; exact g_S (h.sc hz) _
  have ht : Ans l 1 X sgX8_isOfTexts [.ref 27, .int ((M.2.1 19).getD (nI c + Int32.ofInt 1).toNatClampNeg 0)] (mk S (sc M z)) (bI (tP nt (ceA M (c + 1)))) := by rw [g1]; exact g_T (h.sc hz) _
  have hu : Ans l 0 X sgX8_in [.int ((M.2.1 19).getD (nI c + Int32.ofInt 2).toNatClampNeg 0), .int 0, .int 1] (mk S (sc M z)) (bI (p1P (ceA M (c + 2)))) := by rw [g2]; exact m_in _ _ _
  have hf : tP ns (ceA M c) → tP nt (ceA M (c + 1)) → p1P (ceA M (c + 2)) → AnsL l 1 X sgX8_fits [.ref 27, .int ((M.2.1 19).getD (nI c).toNatClampNeg 0), .int ((M.2.1 19).getD (nI c + Int32.ofInt 1).toNatClampNeg 0), .int ((M.2.1 19).getD (nI c + Int32.ofInt 2).toNatClampNeg 0), .int n] (mk S (sc M z)) (fitT M (ceA M c).toNatClampNeg (ceA M (c + 1)).toNatClampNeg (ceA M (c + 2)).toNatClampNeg n) := by
    intro q1 q2 q3
    rw [g0, g1, g2]
    obtain ⟨a, ha, ea⟩ := inN (by omega) q1
    obtain ⟨b, hb, eb⟩ := inN (by omega) q2
    obtain ⟨u, hu, eu⟩ := inC (c := 1) (n := 1) (by decide) (by decide) q3
    rw [ea, eb, eu, nI_clamp (by omega), nI_clamp (by omega), nI_clamp (by omega), ← fitT_sc z]
    exact g_fits (h.sc hz) hzm (by omega) hb (by omega) n
  refine Ctr.of okX8_isRow rfl (Nat.le_of_ble_eq_true rfl) (run_sound okX8_isRow noCut 200 ?_)
  refine Exists.intro _ (And.intro rfl (And.intro v0 (Exists.intro _ (And.intro rfl (And.intro v1 (Exists.intro _ (And.intro rfl (And.intro v2 ?_))))))))
  exact kH hs (by decide) (brB' (fun q1 => ⟨rfl, rfl, some_int (bIe0 (fun y => q1 y.1))⟩) (fun q1 => kH ht (by decide) (brB' (fun q2 => ⟨rfl, rfl, some_int (bIe0 (fun y => q2 y.2.1))⟩) (fun q2 => kH hu (by decide) (brB' (fun q3 => ⟨rfl, rfl, some_int (bIe0 (fun y => q3 y.2.2.1))⟩) (fun q3 => kH (hf q1 q2 q3) (by decide) (kH (m_has _ _) (by decide) (brB' (fun q4 => ⟨rfl, rfl, some_int (bIe0 (fun y => q4 y.2.2.2))⟩) (fun q4 => ⟨rfl, rfl, some_int (bIe1 ⟨q1, q2, q3, q4⟩)⟩)))))))))
def juF (M : MS) (nt ns s : Nat) (w : Int32) : Nat → Nat → Int32
  | 0, _ => -1
  | m + 1, k => if irP M nt ns (40 * s + 3 * k) (nI k) w then juF M nt ns s w m (k + 1) else nI k
def siN (M : MS) (s : Nat) : Nat := ((M.2.1 18).getD s 0).toNatClampNeg
def juG (M : MS) (nt ns : Nat) (s w : Int32) : Int32 := if p3P s then (if (M.2.1 17).getD s.toNatClampNeg 0 = -1 then -11 else if siN M s.toNatClampNeg % 3 = 0 then (if wdP w then juF M nt ns s.toNatClampNeg w (siN M s.toNatClampNeg / 3) 0 else -5) else -2) else -2
set_option maxRecDepth 100000 in
set_option maxHeartbeats 1000000 in
theorem g_judge (h : MInv M nt ns nk) (hs : ShOk M) (s w : Int32) : Ctr l 5 X sgX8_judge [.ref 27, .int s, .int w] (mk S M) (zA S M (.int (juG M nt ns s w))) := by
  have l17 : (M.2.1 17).length = 4 := h.1.2.2.2.2.2.2.2.2.1
  have l18 : (M.2.1 18).length = 4 := h.1.2.2.2.2.2.2.2.2.2.1
  refine Ctr.of okX8_judge rfl (Nat.le_of_ble_eq_true rfl) (run_sound okX8_judge (fun i => Nat.beq i 33) 200 ?_)
  refine kH (m_in _ _ _) (by decide) (brB' (fun q => zI h.1 (if_neg q).symm) (fun q => ?_))
  have e : juG M nt ns s w = if (M.2.1 17).getD s.toNatClampNeg 0 = -1 then -11 else if siN M s.toNatClampNeg % 3 = 0 then (if wdP w then juF M nt ns s.toNatClampNeg w (siN M s.toNatClampNeg / 3) 0 else -5) else -2 := if_pos q
  rw [e]
  obtain ⟨a, ha, rfl⟩ := in03n q
  have en : (nI a).toNatClampNeg = a := nI_clamp (by omega)
  obtain ⟨hso, zz, hzz, hsz⟩ := hs a ha
  have esi : siN M a = zz := by unfold siN; rw [hsz, nI_clamp (by omega)]
  have va : ∀ xs : List Int32, xs.length = 4 → vp_in (nI a) xs.length := fun xs e => by rw [e]; exact vp_nI ha (by decide)
  have g18 : (M.2.1 18).getD (nI a).toNatClampNeg 0 = nI zz := by rw [en]; exact hsz
  rw [en, esi]
  refine Exists.intro _ (And.intro rfl (And.intro (va _ l17) (br (fun p => zI h.1 ?_) (fun p => Exists.intro _ (And.intro rfl (And.intro (va _ l18) (And.intro (by decide) (br (fun p2 => ?_) (fun p2 => zI h.1 ?_)))))))))
  · have p : (M.2.1 17).getD (nI a).toNatClampNeg 0 = -1 := p
    rw [en] at p
    exact (if_pos p).symm
  · have p : ¬ (M.2.1 17).getD (nI a).toNatClampNeg 0 = -1 := p
    rw [en] at p
    have p2 : (M.2.1 18).getD (nI a).toNatClampNeg 0 - (M.2.1 18).getD (nI a).toNatClampNeg 0 / Int32.ofInt 3 * Int32.ofInt 3 = 0 := p2
    rw [g18, show nI zz - nI zz / Int32.ofInt 3 * Int32.ofInt 3 = nI (zz % 3) from nI_rem (b := 3) (by omega) (by decide) (by decide)] at p2
    have p2 : zz % 3 = 0 := (nI_eq (b := 0) (by omega) (by decide)).mp p2
    rw [if_neg p, if_pos p2]
    refine kH (m_isWorld w) (by decide) (brB' (fun q3 => zI h.1 (if_neg q3).symm) (fun q3 => ⟨4, _, by decide, g_reads h, ?_⟩))
    rw [if_pos (show wdP w from q3)]
    rintro hp' w' ⟨⟨z, hz, hzm, rfl⟩, rfl⟩
    have hd : (M.2.1 18).getD (nI a).toNatClampNeg 0 / Int32.ofInt 3 = nI (zz / 3) := by rw [g18]; exact nI_div (b := 3) (by omega) (by decide) (by decide)
    obtain ⟨V, hV⟩ : ∃ V, juF M nt ns a w (zz / 3) 0 = V := ⟨_, rfl⟩
    rw [hV]
    have key : ∀ k, k ≤ zz / 3 → juF M nt ns a w (zz / 3 - k) k = V → WP l (rmD 5 0 0) X sgX8_judge kX8_judge (zA S M (.int V)) 33 [some (.ref 27), some (.int (nI a)), some (.int w), some (.int (nI k))] [] (mk S (sc M z)) 0 0 := by
      refine down (fun e => ?_) (fun k hk ih e => ?_)
      · rw [Nat.sub_self] at e
        refine run_sound okX8_judge (fun i => Nat.beq i 33) 200 (Exists.intro _ (And.intro rfl (And.intro (va _ l18) (And.intro (by decide) (brT ?_ ⟨⟨z, hz, rfl⟩, some_int e⟩)))))
        show (M.2.1 18).getD (nI a).toNatClampNeg 0 / Int32.ofInt 3 ≤ nI (zz / 3)
        rw [hd]; exact Int32.le_refl _
      · rw [show zz / 3 - k = (zz / 3 - (k + 1)) + 1 by omega, juF] at e
        have ei : Int32.ofInt 40 * nI a + Int32.ofInt 3 * nI k = nI (40 * a + 3 * k) := by rw [show Int32.ofInt 3 * nI k = nI (3 * k) from nI_mul 3 k]; exact cel_ix ha (by omega)
        have hr : Ans l 2 X sgX8_isRow [.ref 27, .int (Int32.ofInt 40 * nI a + Int32.ofInt 3 * nI k), .int (nI k), .int w] (mk S (sc M z)) (bI (irP M nt ns (40 * a + 3 * k) (nI k) w)) := by
          rw [ei]
          exact g_isRow h hz hzm (by omega) (nI k) w
        refine run_sound okX8_judge (fun i => Nat.beq i 33) 200 (Exists.intro _ (And.intro rfl (And.intro (va _ l18) (And.intro (by decide) (brF ?_ (kH hr (by decide) (brB' (fun y => ?_) (fun y => ?_))))))))
        · show ¬ (M.2.1 18).getD (nI a).toNatClampNeg 0 / Int32.ofInt 3 ≤ nI k
          rw [hd]; exact nI_ge hk (by omega)
        · rw [if_neg y] at e
          exact ⟨⟨z, hz, rfl⟩, some_int e⟩
        · rw [if_pos y] at e
          have ih := ih e
          rw [← nI_1 k] at ih
          exact ih
    exact key 0 (Nat.zero_le _) hV
  · have p : ¬ (M.2.1 17).getD (nI a).toNatClampNeg 0 = -1 := p
    rw [en] at p
    have p2 : ¬ (M.2.1 18).getD (nI a).toNatClampNeg 0 - (M.2.1 18).getD (nI a).toNatClampNeg 0 / Int32.ofInt 3 * Int32.ofInt 3 = 0 := p2
    rw [g18, show nI zz - nI zz / Int32.ofInt 3 * Int32.ofInt 3 = nI (zz % 3) from nI_rem (b := 3) (by omega) (by decide) (by decide)] at p2
    rw [if_neg p, if_neg (fun y : zz % 3 = 0 => p2 (by rw [y]; rfl))]
    rfl
/-- what always holds is kept by a saying -/
theorem getD_set (xs : List Int32) (i j : Nat) (v : Int32) : (xs.set i v).getD j 0 = if i = j ∧ i < xs.length then v else xs.getD j 0 := by
  by_cases e : i = j
  · subst e
    by_cases h : i < xs.length
    · rw [if_pos ⟨rfl, h⟩, List.getD_eq_getElem?_getD, List.getElem?_set_self h]
      rfl
    · rw [if_neg (fun z => h z.2), List.set_eq_of_length_le (by omega)]
  · rw [if_neg (fun z => e z.1), List.getD_eq_getElem?_getD, List.getElem?_set_ne e, ← List.getD_eq_getElem?_getD]
theorem syM_inv (h : MInv M nt ns nk) (hk : nk < 12) {s t u : Nat} (hs : s < 5) (ht : t < nt) (hu : u < 2) : MInv (syM M nk (nI s) (nI t) (nI u)) nt ns (nk + 1) := by
  obtain ⟨hM, hO, h9, h0, h3, hr, hk5, htk⟩ := h
  have l4 : (M.2.1 4).length = 36 := hM.2.2.1
  refine ⟨?_, hO, h9, h0, ⟨rfl, by omega⟩, hr, hk5, ?_⟩
  · obtain ⟨a1, a2, a3, a4, a5, a6, a7, a8, a9, a10, a11, a12, a13, a14, a15, a16, a17, a18⟩ := hM
    exact ⟨a1, a2, by show ((((M.2.1 4).set (3 * nk) (nI s)).set (3 * nk + 1) (nI t)).set (3 * nk + 2) (nI u)).length = 36; simp [a3], a4, a5, a6, a7, a8, a9, a10, a11, a12, a13, a14, a15, a16, a17, a18⟩
  · intro k hk'
    show ∃ s' t' u' : Nat, ((((M.2.1 4).set (3 * nk) (nI s)).set (3 * nk + 1) (nI t)).set (3 * nk + 2) (nI u)).getD (3 * k) 0 = nI s' ∧ ((((M.2.1 4).set (3 * nk) (nI s)).set (3 * nk + 1) (nI t)).set (3 * nk + 2) (nI u)).getD (3 * k + 1) 0 = nI t' ∧ ((((M.2.1 4).set (3 * nk) (nI s)).set (3 * nk + 1) (nI t)).set (3 * nk + 2) (nI u)).getD (3 * k + 2) 0 = nI u' ∧ s' < 5 ∧ t' < nt ∧ u' < 2
    by_cases e : k = nk
    · subst e
      refine ⟨s, t, u, ?_, ?_, ?_, hs, ht, hu⟩
      · rw [getD_set, getD_set, getD_set, if_neg (by omega), if_neg (by omega), if_pos (by omega)]
      · rw [getD_set, getD_set, if_neg (by omega), if_pos (by simp; omega)]
      · rw [getD_set, if_pos (by simp; omega)]
    · obtain ⟨s', t', u', e1, e2, e3, b1, b2, b3⟩ := htk k (by omega)
      refine ⟨s', t', u', ?_, ?_, ?_, b1, b2, b3⟩
      · rw [getD_set, getD_set, getD_set, if_neg (by omega), if_neg (by omega), if_neg (by omega)]; exact e1
      · rw [getD_set, getD_set, getD_set, if_neg (by omega), if_neg (by omega), if_neg (by omega)]; exact e2
      · rw [getD_set, getD_set, getD_set, if_neg (by omega), if_neg (by omega), if_neg (by omega)]; exact e3
end MROW
