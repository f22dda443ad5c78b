/-! THE REFERENCE's tape, over a new one -/
section MFR5
variable {l : Launch} {X : List (List Int32)} {S : CS} {M : MS} {hp : AH}
abbrev byP (v : Int32) : Prop := (0 : Int32) ≤ v ∧ v ≤ 255
def feeP (n a b c d e : Int32) : Prop := ((1 : Int32) ≤ n ∧ n ≤ 5) ∧ byP a ∧ byP b ∧ byP c ∧ byP d ∧ byP e
def cNf (i : Nat) : Bool := Nat.beq i 32 || Nat.beq i 59
set_option maxRecDepth 100000 in
set_option maxHeartbeats 1000000 in
theorem f_feed (h : FM M) (n a b c d e : Int32) : Ctr l 2 X sgX8_feed [.ref 27, .int n, .int a, .int b, .int c, .int d, .int e] (mk S M) (fun _ w => (feeP n a b c d e → w = some (.int n)) ∧ (¬ feeP n a b c d e → w = some (.int (-2)))) := by
  have no : ∀ {p : Prop}, (feeP n a b c d e → p) → ¬ p → ((feeP n a b c d e → some (Value.int (-2)) = some (Value.int n)) ∧ (¬ feeP n a b c d e → some (Value.int (-2)) = some (.int (-2)))) := fun h1 h2 => ⟨fun z => absurd (h1 z) h2, fun _ => rfl⟩
  have h6 := h.n6
  have l5 : (M.2.1 5).length = 160 := h.1.2.2.2.1
  refine Ctr.of okX8_feed rfl (Nat.le_of_ble_eq_true rfl) (run_sound okX8_feed cNf 200 ?_)
  refine kH (m_in _ _ _) (by decide) (brB' (fun q => no (fun z => z.1) q) (fun q => ?_))
  refine kH (m_isByte _) (by decide) (brB' (fun q => no (fun z => z.2.1) q) (fun qa => ?_))
  refine kH (m_isByte _) (by decide) (brB' (fun q => no (fun z => z.2.2.1) q) (fun qb => ?_))
  refine kH (m_isByte _) (by decide) (brB' (fun q => no (fun z => z.2.2.2.1) q) (fun qc => ?_))
  refine kH (m_isByte _) (by decide) (brB' (fun q => no (fun z => z.2.2.2.2.1) q) (fun qd => ?_))
  refine kH (m_isByte _) (by decide) (brB' (fun q => no (fun z => z.2.2.2.2.2) q) (fun qe => ?_))
  have yes : feeP n a b c d e := ⟨q, qa, qb, qc, qd, qe⟩
  obtain ⟨m, hm, rfl⟩ : ∃ m : Nat, m ≤ 5 ∧ n = nI m := by
    have h1 := Int32.le_iff_toInt_le.mp q.1
    have h2 := Int32.le_iff_toInt_le.mp q.2
    have e1 : (Int32.ofInt 1).toInt = 1 := by decide
    have e5 : (Int32.ofInt 5).toInt = 5 := by decide
    refine ⟨n.toInt.toNat, by omega, Int32.toInt_inj.mp ?_⟩
    rw [nI_toInt (by omega)]
    omega
  refine brT ?_ ?_
  · show M.1 6 + nI m ≤ Int32.ofInt 160
    rw [h6, Int32.zero_add]
    exact nI_le (b := 160) (by omega) (by decide)
  have key : ∀ j, j ≤ m → ∀ tp : List Int32, tp.length = 160 → WP l (rmD 2 0 0) X sgX8_feed kX8_feed (fun _ w => (feeP (nI m) a b c d e → w = some (.int (nI m))) ∧ (¬ feeP (nI m) a b c d e → w = some (.int (-2)))) 32 [some (.ref 27), some (.int (nI m)), some (.int a), some (.int b), some (.int c), some (.int d), some (.int e), some (.int (nI j))] [] (mk S (mN (mR M 5 tp) 6 (nI j))) 0 0 := by
    refine down (fun tp ht => ?_) (fun j hj ih tp ht => ?_)
    · exact run_sound okX8_feed cNf 200 (brT (Int32.le_refl _) ⟨fun _ => rfl, fun z => absurd yes z⟩)
    · have t59 : ∀ x, WP l (rmD 2 0 0) X sgX8_feed kX8_feed (fun _ w => (feeP (nI m) a b c d e → w = some (.int (nI m))) ∧ (¬ feeP (nI m) a b c d e → w = some (.int (-2)))) 59 [some (.ref 27), some (.int (nI m)), some (.int a), some (.int b), some (.int c), some (.int d), some (.int e), some (.int (nI j))] [.int x, .int (nI j), .ref 31] (mk S (mN (mR M 5 tp) 6 (nI j))) 0 0 := by
        intro x
        refine run_sound okX8_feed cNf 200 (Exists.intro _ (And.intro rfl (And.intro ?_ (And.intro rfl (And.intro trivial ?_)))))
        · show vp_in (nI j) tp.length
          rw [ht]; exact vp_nI (by omega) (by decide)
        · have ih := ih (tp.set (nI j).toNatClampNeg x) (by simpa using ht)
          rw [← nI_1 j] at ih
          exact ih
      refine run_sound okX8_feed cNf 200 (brF (ge_no (n := m) rfl hj (by omega)) (br (fun _ => t59 _) (fun _ => br (fun _ => t59 _) (fun _ => br (fun _ => t59 _) (fun _ => br (fun _ => t59 _) (fun _ => t59 _))))))
  have q := key 0 (Nat.zero_le _) (M.2.1 5) l5
  have e : mk S (mN (mR M 5 (M.2.1 5)) 6 (nI 0)) = mk S M := by
    show mk S (mN (mR M 5 (M.2.1 5)) 6 0) = mk S M
    rw [← h6]
    rfl
  rw [e] at q
  exact q
theorem txE_0 (ws tp : List Int32) (b : Int32) (st : List Int32) : txE ws tp 0 (txL ws tp 0 1 3 0 (true, 0, b, [], st)) = (false, 0) := rfl
theorem f_text (h : FM M) : Ctr l 4 X sgX8_text [.ref 27] (mk S M) (pA (.int (-100))) := by
  have q := m_text (l := l) (X := X) (S := S) h.1 (t := 0) (tx := 1) h.n6 (by decide) h.n9 (by decide)
  refine q.weak (fun hp w hw => hw.2.trans (some_int ?_))
  rw [txE_0]
  rfl
end MFR5
