/-! THE REFERENCE in general: what the sayings leave -/
section MWOR
variable {l : Launch} {X : List (List Int32)} {S : CS} {M : MS} {hp : AH} {nt ns nk : Nat}
abbrev zI {S : CS} {M : MS} {v w : Int32} (hM : MLen M) (e : v = w) : zA S M (.int w) (mk S M) (some (.int v)) := ⟨⟨getZ M, hM.z, rfl⟩, some_int e⟩
abbrev zJ {S : CS} {M : MS} {v w : Int64} (hM : MLen M) (e : v = w) : zA S M (.long w) (mk S M) (some (.long v)) := ⟨⟨getZ M, hM.z, rfl⟩, some_long e⟩
def beG (M : MS) (nk : Nat) (n what : Int32) : Int32 := if (0 : Int32) ≤ n ∧ n ≤ nI nk then (if p3P what then (if what = 0 then cntF (woT M n.toNatClampNeg) 32 else if what = 1 then alF (woT M n.toNatClampNeg) 32 else if what = 2 then noF (woT M n.toNatClampNeg) 32 else leF (woT M n.toNatClampNeg) 32 0) else -7) else -5
set_option maxRecDepth 100000 in
theorem g_behind (h : MInv M nt ns nk) (n what : Int32) : Ctr l 5 X sgX8_behind [.ref 27, .int n, .int what] (mk S M) (zA S M (.int (beG M nk n what))) := by
  obtain ⟨h3, h12⟩ := h.2.2.2.2.1
  have hc : Ans l 0 X sgX8_in [.int n, .int 0, .int (M.1 3)] (mk S M) (bI ((0 : Int32) ≤ n ∧ n ≤ nI nk)) := by
    rw [h3]
    exact m_in _ _ _
  refine Ctr.of okX8_behind rfl (Nat.le_of_ble_eq_true rfl) (run_sound okX8_behind noCut 100 ?_)
  refine kH hc (by decide) (brB' (fun q => zI h.1 (if_neg q).symm) (fun q => kH (m_in _ _ _) (by decide) (brB' (fun q2 => zI h.1 ((if_pos q).trans (if_neg q2)).symm) (fun q2 => ⟨4, _, by decide, g_reads h, ?_⟩))))
  rintro hp' w ⟨⟨z, hz, hzm, rfl⟩, rfl⟩
  have e : beG M nk n what = if what = 0 then cntF (woT M n.toNatClampNeg) 32 else if what = 1 then alF (woT M n.toNatClampNeg) 32 else if what = 2 then noF (woT M n.toNatClampNeg) 32 else leF (woT M n.toNatClampNeg) 32 0 := (if_pos q).trans (if_pos q2)
  rw [e]
  obtain ⟨j, hj, rfl⟩ := inC (c := nI nk) (n := nk) (by rw [nI_toInt (by omega)]) (by omega) q
  rw [nI_clamp (show j < 2 ^ 31 by omega)]
  have hw : AnsL l 3 X sgX8_worldsOf [.ref 27, .int (nI j)] (mk S (sc M z)) (woT M j) := by
    rw [← woT_sc z]
    exact g_worldsOf (h.sc hz) hzm hj
  refine kH hw (by decide) ?_
  rcases in03 q2 with rfl | rfl | rfl | rfl
  · rw [if_pos (show (0 : Int32) = 0 from rfl)]
    exact brT rfl (kH (m_bitsOf _) (by decide) ⟨⟨z, hz, rfl⟩, rfl⟩)
  · rw [if_neg (show ¬ (1 : Int32) = 0 by decide), if_pos (show (1 : Int32) = 1 from rfl)]
    exact brF (by decide) (brT rfl (kH (m_allIn _) (by decide) ⟨⟨z, hz, rfl⟩, rfl⟩))
  · rw [if_neg (show ¬ (2 : Int32) = 0 by decide), if_neg (show ¬ (2 : Int32) = 1 by decide), if_pos (show (2 : Int32) = 2 from rfl)]
    exact brF (by decide) (brF (by decide) (brT rfl (kH (m_noneIn _) (by decide) ⟨⟨z, hz, rfl⟩, rfl⟩)))
  · rw [if_neg (show ¬ (3 : Int32) = 0 by decide), if_neg (show ¬ (3 : Int32) = 1 by decide), if_neg (show ¬ (3 : Int32) = 2 by decide)]
    exact brF (by decide) (brF (by decide) (brF (by decide) (kH (m_leastOf _) (by decide) ⟨⟨z, hz, rfl⟩, rfl⟩)))
def cnG (M : MS) : Nat → Nat → Int32
  | 0, _ => -1
  | m + 1, k => if woT M (k + 1) = 0 then nI k else cnG M m (k + 1)
set_option maxRecDepth 100000 in
theorem g_cannot (h : MInv M nt ns nk) : Ctr l 5 X sgX8_cannot [.ref 27] (mk S M) (zA S M (.int (cnG M nk 0))) := by
  obtain ⟨h3, h12⟩ := h.2.2.2.2.1
  refine Ctr.of okX8_cannot rfl (Nat.le_of_ble_eq_true rfl) (run_sound okX8_cannot (fun i => Nat.beq i 4) 100 ⟨4, _, by decide, g_reads h, ?_⟩)
  rintro hp' w ⟨⟨z, hz, hzm, rfl⟩, rfl⟩
  have key : ∀ j, j ≤ nk → cnG M (nk - j) j = cnG M nk 0 → WP l (rmD 5 0 0) X sgX8_cannot kX8_cannot (zA S M (.int (cnG M nk 0))) 4 [some (.ref 27), some (.int (nI j))] [] (mk S (sc M z)) 0 0 := by
    refine down (fun e => ?_) (fun j hj ih e => ?_)
    · rw [Nat.sub_self] at e
      refine run_sound okX8_cannot (fun i => Nat.beq i 4) 100 (brT ?_ ⟨⟨z, hz, rfl⟩, some_int e⟩)
      show M.1 3 ≤ nI nk
      rw [h3]; exact Int32.le_refl _
    · rw [show nk - j = (nk - (j + 1)) + 1 by omega, cnG] at e
      have hw : AnsL l 3 X sgX8_worldsOf [.ref 27, .int (nI j + Int32.ofInt 1)] (mk S (sc M z)) (woT M (j + 1)) := by
        rw [show nI j + Int32.ofInt 1 = nI (j + 1) from nI_1 j, ← woT_sc z]
        exact g_worldsOf (h.sc hz) hzm hj
      refine run_sound okX8_cannot (fun i => Nat.beq i 4) 100 (brF ?_ (kH hw (by decide) (brC (fun q => ?_) (fun q => ?_))))
      · show ¬ M.1 3 ≤ nI j
        rw [h3]; exact nI_ge hj (by omega)
      · rw [if_pos (show woT M (j + 1) = 0 from q)] at e
        exact ⟨⟨z, hz, rfl⟩, some_int e⟩
      · rw [if_neg (show ¬ woT M (j + 1) = 0 from q)] at e
        have ih := ih e
        rw [← nI_1 j] at ih
        exact ih
  exact key 0 (Nat.zero_le _) rfl
end MWOR
