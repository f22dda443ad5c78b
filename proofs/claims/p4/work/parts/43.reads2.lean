section READS2
variable {l : Launch} {X : List (List Int32)} {S : CS} {M : MS}
abbrev zL (S : CS) (M : MS) (v : Int64) : AH → Option Value → Prop := fun h w => (∃ z, ScOk z ∧ z.2.2 = (getZ M).2.2 ∧ h = mk S (sc M z)) ∧ w = some (.long v)
/-- worlds in which a part of a text is so -/
def soF (M : MS) (p t : Nat) (who : Int32) : Nat → Int64
  | 0 => 0
  | w + 1 => soF M p t who w ||| (if saysF M p t (nI w) who = 1 then (1 : Int64) <<< ((nI w).toInt64 &&& 63) else 0)
set_option maxRecDepth 100000 in
set_option maxHeartbeats 4000000 in
theorem m_soIn (hM : MLen M) {t p : Nat} (ht6 : t < 6) (hp3 : p < 3) (hO : TOk M t p) (who : Int32) : Ctr l 3 X sgX8_soIn [.ref 27, .int (nI t), .int (nI p), .int who] (mk S M) (zL S M (soF M p t who 32)) := by
  refine Ctr.of okX8_soIn rfl (Nat.le_of_ble_eq_true rfl) (run_sound okX8_soIn (fun i => Nat.beq i 4) 300 ?_)
  have key : ∀ j, j ≤ 32 → ∀ z, ScOk z → z.2.2 = (getZ M).2.2 → WP l (rmD 3 0 0) X sgX8_soIn kX8_soIn (zL S M (soF M p t who 32)) 4 [some (.ref 27), some (.int (nI t)), some (.int (nI p)), some (.int who), some (.long (soF M p t who j)), none, some (.int (nI j))] [] (mk S (sc M z)) 0 0 := by
    refine down (fun z hz hzz => ?_) (fun j hj ih z hz hzz => ?_)
    · exact run_sound okX8_soIn (fun i => Nat.beq i 4) 300 (brT (Int32.le_refl _) ⟨rfl, ⟨z, hz, hzz, rfl⟩, rfl⟩)
    · refine run_sound okX8_soIn (fun i => Nat.beq i 4) 300 (brF (ge_no (n := 32) rfl hj (by decide)) ⟨2, _, by decide, m_saysOf (M := sc M z) (hM.sc hz) ht6 hp3 hO _ _, ?_⟩)
      rintro hp' v ⟨⟨z', hz', hzz', rfl⟩, rfl⟩
      refine br (fun q1 => ?_) (fun q1 => ?_)
      · have q2 : saysF M p t (nI j) who = 1 := q1
        have ih := ih z' hz' (hzz'.trans hzz)
        rw [show soF M p t who (j + 1) = soF M p t who j ||| ((1 : Int64) <<< ((nI j).toInt64 &&& 63)) by rw [soF, if_pos q2], ← nI_1 j] at ih
        exact ih
      · have q2 : ¬ saysF M p t (nI j) who = 1 := q1
        have ih := ih z' hz' (hzz'.trans hzz)
        rw [show soF M p t who (j + 1) = soF M p t who j ||| 0 by rw [soF, if_neg q2], ← nI_1 j] at ih
        exact ih
  exact key 0 (Nat.zero_le _) (getZ M) hM.z rfl
/-- what a text means, said by one, by the place in the row -/
def mtF (M : MS) (k : Nat) : Int64 := soF M (k % 2) (k / 10) (nI (k / 2 % 5)) 32
/-- the row meant holds it -/
def MtOk (M : MS) (nt : Nat) (z : SZ) : Prop := ScOk z ∧ z.2.2.2 = (getZ M).2.2.2 ∧ ∀ k, k < 10 * nt → z.2.2.1.getD k 0 = mtF M k
def AllOk (M : MS) (nt : Nat) : Prop := ∀ t, t < nt → ∀ p, p < 3 → TOk M t p
abbrev zV (S : CS) (M : MS) (nt : Nat) : AH → Option Value → Prop := fun h w => (∃ z, MtOk M nt z ∧ h = mk S (sc M z)) ∧ w = none
theorem nI_div {a b : Nat} (ha : a < 2 ^ 31) (hb0 : 0 < b) (hb : b < 2 ^ 31) : nI a / nI b = nI (a / b) := by
  apply Int32.toInt_inj.mp
  rw [Int32.toInt_div, nI_toInt ha, nI_toInt hb]
  exact (Int32.toInt_ofNat (n := a / b)).symm
theorem nI_rem {a b : Nat} (ha : a < 2 ^ 31) (hb0 : 0 < b) (hb : b < 2 ^ 31) : nI a - nI a / nI b * nI b = nI (a % b) := by
  rw [nI_div ha hb0 hb, nI_mul]
  have h := Nat.div_add_mod a b
  have h2 : a = a / b * b + a % b := by rw [Nat.mul_comm]; exact h.symm
  have : nI a = nI (a / b * b) + nI (a % b) := by rw [nI_add, ← h2]
  rw [this]
  rw [Int32.add_comm]
  exact Int32.add_sub_cancel _ _
set_option maxRecDepth 100000 in
set_option maxHeartbeats 4000000 in
theorem m_reads (hM : MLen M) {nt : Nat} (hn : M.1 9 = nI nt) (hn6 : nt ≤ 6) (hO : AllOk M nt) : Ctr l 4 X sgX8_reads [.ref 27] (mk S M) (zV S M nt) := by
  have hend : Int32.ofInt 10 * M.1 9 = nI (10 * nt) := by rw [hn]; exact nI_mul 10 nt
  refine Ctr.of okX8_reads rfl (Nat.le_of_ble_eq_true rfl) (run_sound okX8_reads (fun i => Nat.beq i 2) 300 ?_)
  have key : ∀ j, j ≤ 10 * nt → ∀ z, ScOk z → z.2.2.2 = (getZ M).2.2.2 → (∀ k, k < j → z.2.2.1.getD k 0 = mtF M k) → WP l (rmD 4 0 0) X sgX8_reads kX8_reads (zV S M nt) 2 [some (.ref 27), some (.int (nI j))] [] (mk S (sc M z)) 0 0 := by
    refine down (fun z hz hzz hk => ?_) (fun j hj ih z hz hzz hk => ?_)
    · exact run_sound okX8_reads (fun i => Nat.beq i 2) 300 (brT (ge_end hend) ⟨rfl, ⟨z, ⟨hz, hzz, hk⟩, rfl⟩, rfl⟩)
    · refine run_sound okX8_reads (fun i => Nat.beq i 2) 300 (brF (ge_no hend hj (by omega)) ?_)
      refine And.intro (by decide) (And.intro (by decide) (And.intro (by decide) (And.intro (by decide) ?_)))
      have e1 : nI j / Int32.ofInt 10 = nI (j / 10) := nI_div (b := 10) (by omega) (by decide) (by decide)
      have e2 : nI j - nI j / Int32.ofInt 2 * Int32.ofInt 2 = nI (j % 2) := nI_rem (b := 2) (by omega) (by decide) (by decide)
      have e3 : nI j / Int32.ofInt 2 = nI (j / 2) := nI_div (b := 2) (by omega) (by decide) (by decide)
      have e4 : nI j / Int32.ofInt 2 - nI j / Int32.ofInt 2 / Int32.ofInt 5 * Int32.ofInt 5 = nI (j / 2 % 5) := by rw [e3]; exact nI_rem (b := 5) (by omega) (by decide) (by decide)
      have hc : Ctr l 3 X sgX8_soIn [.ref 27, .int (nI j / Int32.ofInt 10), .int (nI j - nI j / Int32.ofInt 2 * Int32.ofInt 2), .int (nI j / Int32.ofInt 2 - nI j / Int32.ofInt 2 / Int32.ofInt 5 * Int32.ofInt 5)] (mk S (sc M z)) (zL S (sc M z) (mtF M j)) := by
        rw [e1, e2, e4]
        exact m_soIn (M := sc M z) (hM.sc hz) (by omega) (by omega) (hO _ (by omega) _ (by omega)) _
      refine ⟨3, _, by decide, hc, ?_⟩
      rintro hp' v ⟨⟨z', hz', hzz', rfl⟩, rfl⟩
      have hzz2 : z'.2.2 = z.2.2 := hzz'
      have hl : z'.2.2.1.length = 60 := hz'.2.2.1
      refine Exists.intro _ (And.intro rfl (And.intro ?_ ?_))
      · show vp_in (nI j) z'.2.2.1.length
        rw [hl]; exact vp_nI (by omega) (by decide)
      · have ih := ih (z'.1, z'.2.1, z'.2.2.1.set (nI j).toNatClampNeg (mtF M j), z'.2.2.2) ⟨hz'.1, hz'.2.1, by simpa using hl, hz'.2.2.2⟩ (by rw [show z'.2.2.2 = z.2.2.2 from congrArg (fun q => q.2) hzz2]; exact hzz) (fun k hk' => by
          show (z'.2.2.1.set (nI j).toNatClampNeg (mtF M j)).getD k 0 = mtF M k
          rw [nI_clamp (by omega)]
          by_cases e : k = j
          · subst e
            rw [List.getD_eq_getElem?_getD, List.getElem?_set_self (by omega)]
            rfl
          · rw [List.getD_eq_getElem?_getD, List.getElem?_set_ne (fun q => e q.symm), ← List.getD_eq_getElem?_getD, show z'.2.2.1 = z.2.2.1 from congrArg (fun q => q.1) hzz2]
            exact hk k (by omega))
        rw [← nI_1 j] at ih
        exact ih
  exact key 0 (Nat.zero_le _) (getZ M) hM.z rfl (fun k hk => by omega)
end READS2
