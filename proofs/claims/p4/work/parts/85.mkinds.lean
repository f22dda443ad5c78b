/-! THE REFERENCE in general: kinds, questions -/
section MKINDS
variable {l : Launch} {X : List (List Int32)} {S : CS} {M : MS} {hp : AH} {nt ns nk : Nat}
abbrev kiP (M : MS) (s : Nat) (w : Int32) (of k : Nat) : Prop := ¬ tk M k 0 = s ∨ hsP (asT M k (nI of)) w
def kiI (M : MS) (s : Nat) (w : Int32) (of : Nat) : Nat → Bool
  | 0 => true
  | k + 1 => if kiI M s w of k = true then (if kiP M s w of k then true else false) else false
def kiT (M : MS) (nk s : Nat) (w : Int32) : Nat → Int32
  | 0 => 0
  | of + 1 => kiT M nk s w of ||| (if kiI M s w of nk = true then (1 : Int32) <<< (nI of &&& 31) else 0)
def kiG (M : MS) (ns nk : Nat) (s w : Int32) : Int32 := if tP ns s ∧ wdP w then kiT M nk s.toNatClampNeg w 6 else -5
def cNk (i : Nat) : Bool := Nat.beq i 15 || Nat.beq i 22 || Nat.beq i 37 || Nat.beq i 73
set_option maxRecDepth 100000 in
set_option maxHeartbeats 2000000 in
theorem g_kinds (h : MInv M nt ns nk) (s w : Int32) : Ctr l 5 X sgX8_kinds [.ref 27, .int s, .int w] (mk S M) (zA S M (.int (kiG M ns nk s w))) := by
  obtain ⟨h3, h12⟩ := h.2.2.2.2.1
  obtain ⟨h0, h5⟩ := h.2.2.2.1
  have h6 := h.2.2.1.2.2
  have l2 : (M.2.1 2).length = 5 := h.1.2.1
  refine Ctr.of okX8_kinds rfl (Nat.le_of_ble_eq_true rfl) (run_sound okX8_kinds cNk 200 ?_)
  refine kH (g_S h s) (by decide) (brB' (fun q => zI h.1 (if_neg (fun z => q z.1)).symm) (fun q => kH (m_isWorld w) (by decide) (brB' (fun q2 => zI h.1 (if_neg (fun z => q2 z.2)).symm) (fun q2 => ⟨4, _, by decide, g_reads h, ?_⟩))))
  rintro hp' w' ⟨⟨z, hz, hzm, rfl⟩, rfl⟩
  rw [show kiG M ns nk s w = kiT M nk s.toNatClampNeg w 6 from if_pos ⟨q, q2⟩]
  obtain ⟨j, hj, rfl⟩ := inN (by omega) q
  rw [nI_clamp (show j < 2 ^ 31 by omega)]
  have vj : vp_in (nI j) (M.2.1 2).length := by rw [l2]; exact vp_nI (by omega) (by decide)
  have nj : (M.2.1 2).getD (nI j).toNatClampNeg 0 = (M.2.1 2).getD j 0 := by rw [nI_clamp (by omega)]
  have hkd := h.2.2.2.2.2.2.1 j (by omega)
  obtain ⟨V, hV⟩ : ∃ V, kiT M nk j w 6 = V := ⟨_, rfl⟩
  rw [hV]
  have key : ∀ of, of ≤ 6 → ∀ x5 x6 x7, WP l (rmD 5 0 0) X sgX8_kinds kX8_kinds (zA S M (.int V)) 15 [some (.ref 27), some (.int (nI j)), some (.int w), some (.int (kiT M nk j w of)), some (.int (nI of)), x5, x6, x7] [] (mk S (sc M z)) 0 0 := by
    refine down (fun x5 x6 x7 => ?_) (fun of hof iho x5 x6 x7 => ?_)
    · exact run_sound okX8_kinds cNk 200 (brT (Int32.le_refl _) ⟨⟨z, hz, rfl⟩, some_int hV⟩)
    · have inner : ∀ k, k ≤ nk → ∀ x7, WP l (rmD 5 0 0) X sgX8_kinds kX8_kinds (zA S M (.int V)) 22 [some (.ref 27), some (.int (nI j)), some (.int w), some (.int (kiT M nk j w of)), some (.int (nI of)), some (.int (bB (kiI M j w of k))), some (.int (nI k)), x7] [] (mk S (sc M z)) 0 0 := by
        refine down (fun x7 => ?_) (fun k hk ih x7 => ?_)
        · have iho := iho (some (.int (bB (kiI M j w of nk)))) (some (.int (nI nk))) x7
          refine run_sound okX8_kinds cNk 200 (brT ?_ (brBB (fun p => ?_) (fun p => ?_)))
          · show M.1 3 ≤ nI nk
            rw [h3]; exact Int32.le_refl _
          · rw [show kiT M nk j w (of + 1) = kiT M nk j w of ||| 0 by rw [kiT, if_neg (by rw [p]; decide)], ← nI_1 of] at iho
            exact iho
          · rw [show kiT M nk j w (of + 1) = kiT M nk j w of ||| ((1 : Int32) <<< (nI of &&& 31)) by rw [kiT, if_pos p], ← nI_1 of] at iho
            exact iho
        · obtain ⟨e1, e2, e3, t1, t2, t3⟩ := tk_ok h hk
          have i0 : Int32.ofInt 3 * nI k = nI (3 * k + 0) := nI_mul 3 k
          have i1 : Int32.ofInt 3 * nI k + Int32.ofInt 1 = nI (3 * k + 1) := by rw [i0]; exact nI_1 _
          have i2 : Int32.ofInt 3 * nI k + Int32.ofInt 2 = nI (3 * k + 2) := by rw [i0]; exact nI_add _ 2
          have v0 : vp_in (Int32.ofInt 3 * nI k) (M.2.1 4).length := by rw [i0]; exact (ix_tk h hk (by decide)).1
          have v1 : vp_in (Int32.ofInt 3 * nI k + Int32.ofInt 1) (M.2.1 4).length := by rw [i1]; exact (ix_tk h hk (by decide)).1
          have v2 : vp_in (Int32.ofInt 3 * nI k + Int32.ofInt 2) (M.2.1 4).length := by rw [i2]; exact (ix_tk h hk (by decide)).1
          have g0 : (M.2.1 4).getD (Int32.ofInt 3 * nI k).toNatClampNeg 0 = nI (tk M k 0) := by rw [i0, (ix_tk h hk (show 0 < 3 by decide)).2, Nat.add_zero]; exact e1
          have g1 : (M.2.1 4).getD (Int32.ofInt 3 * nI k + Int32.ofInt 1).toNatClampNeg 0 = nI (tk M k 1) := by rw [i1, (ix_tk h hk (show 1 < 3 by decide)).2]; exact e2
          have g2 : (M.2.1 4).getD (Int32.ofInt 3 * nI k + Int32.ofInt 2).toNatClampNeg 0 = nI (tk M k 2) := by rw [i2, (ix_tk h hk (show 2 < 3 by decide)).2]; exact e3
          have cc : tk M k 0 = j → AnsL l 0 X sgX8_canSay [.ref 27, .int (nI of), .int ((M.2.1 2).getD (nI j).toNatClampNeg 0), .int (nI j), .int ((M.2.1 4).getD (Int32.ofInt 3 * nI k + Int32.ofInt 1).toNatClampNeg 0), .int ((M.2.1 4).getD (Int32.ofInt 3 * nI k + Int32.ofInt 2).toNatClampNeg 0), .int (nI k)] (mk S (sc M z)) (asT M k (nI of)) := by
            intro ej
            have q := g_canSay (l := l) (X := X) (S := S) (h.sc hz) hzm (nI of) ((M.2.1 2).getD j 0) (nI k) (show j < 5 by omega) t2 t3 hkd.two
            rw [mtF_sc, mtF_sc] at q
            rw [nj, g1, g2]
            have ea : asT M k (nI of) = canL (nI of) ((M.2.1 2).getD j 0) (nI k) (mtF M (10 * tk M k 1 + 2 * j + tk M k 2)) (mtF M (10 * tk M k 1 + 2 * j + 1 - tk M k 2)) := by unfold asT; rw [ej]
            rw [ea]
            exact q
          have t73 : ∀ v : Int32, v = bB (kiI M j w of (k + 1)) → ∀ x7, WP l (rmD 5 0 0) X sgX8_kinds kX8_kinds (zA S M (.int V)) 73 [some (.ref 27), some (.int (nI j)), some (.int w), some (.int (kiT M nk j w of)), some (.int (nI of)), some (.int (bB (kiI M j w of k))), some (.int (nI k)), x7] [.int v] (mk S (sc M z)) 0 0 := by
            intro v hv x7
            have ih := ih x7
            rw [← hv, ← nI_1 k] at ih
            exact run_sound okX8_kinds (fun i => Nat.beq i 22) 200 ih
          have e0 : ¬ kiI M j w of k = true → (0 : Int32) = bB (kiI M j w of (k + 1)) := fun y => by rw [kiI, if_neg y]; rfl
          have e1' : kiI M j w of k = true → kiP M j w of k → (1 : Int32) = bB (kiI M j w of (k + 1)) := fun y y2 => by rw [kiI, if_pos y, if_pos y2]; rfl
          have e2' : kiI M j w of k = true → ¬ kiP M j w of k → (0 : Int32) = bB (kiI M j w of (k + 1)) := fun y y2 => by rw [kiI, if_pos y, if_neg y2]; rfl
          have t37 : ∀ v : Int32, (v = 1 ∧ tk M k 0 = j) ∨ (v = 0 ∧ ¬ tk M k 0 = j) → WP l (rmD 5 0 0) X sgX8_kinds kX8_kinds (zA S M (.int V)) 37 [some (.ref 27), some (.int (nI j)), some (.int w), some (.int (kiT M nk j w of)), some (.int (nI of)), some (.int (bB (kiI M j w of k))), some (.int (nI k)), x7] [.int v] (mk S (sc M z)) 0 0 := by
            intro v hv
            rcases hv with ⟨rfl, ho⟩ | ⟨rfl, ho⟩
            · refine run_sound okX8_kinds (fun i => Nat.beq i 73) 200 (brBB (fun p => t73 _ (e0 (by rw [p]; decide)) _) (fun p => brF (by decide) (Exists.intro _ (And.intro rfl (And.intro vj (Exists.intro _ (And.intro rfl (And.intro v1 (Exists.intro _ (And.intro rfl (And.intro v2 (kH (cc ho) (by decide) (kH (m_has _ _) (by decide) (brB' (fun p2 => t73 _ (e2' p (fun y => y.elim (fun y => y ho) p2)) _) (fun p2 => t73 _ (e1' p (Or.inr p2)) _)))))))))))))))
            · exact run_sound okX8_kinds (fun i => Nat.beq i 73) 200 (brBB (fun p => t73 _ (e0 (by rw [p]; decide)) _) (fun p => brT rfl (t73 _ (e1' p (Or.inl ho)) _)))
          refine run_sound okX8_kinds cNk 200 (brF ?_ (Exists.intro _ (And.intro rfl (And.intro v0 (br (fun p => t37 1 (Or.inl ⟨rfl, ?_⟩)) (fun p => t37 0 (Or.inr ⟨rfl, fun y => p ?_⟩)))))))
          · show ¬ M.1 3 ≤ nI k
            rw [h3]; exact nI_ge hk (by omega)
          · have p : (M.2.1 4).getD (Int32.ofInt 3 * nI k).toNatClampNeg 0 = nI j := p
            rw [g0] at p
            exact (nI_eq (by omega) (by omega)).mp p
          · show (M.2.1 4).getD (Int32.ofInt 3 * nI k).toNatClampNeg 0 = nI j
            rw [g0, y]
      exact run_sound okX8_kinds cNk 200 (brF (ge_no (n := 6) rfl hof (by decide)) (inner 0 (Nat.zero_le _) x7))
  exact key 0 (Nat.zero_le _) none none none
end MKINDS
