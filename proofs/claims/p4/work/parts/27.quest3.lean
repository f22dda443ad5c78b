section QUEST3
variable {l : Launch} {X : List (List Int32)} {S : CS} {T : AH} {nt ns nk : Nat}
/-- the number of a world among some -/
def wnF (some_ i : Int32) : Nat → Nat → Int32 → Int32
  | 0, _, _ => -1
  | m + 1, w, ahead => if bitF some_ (nI w) = 1 then (if ahead = i then nI w else wnF some_ i m (w + 1) (ahead + 1)) else wnF some_ i m (w + 1) ahead
set_option maxRecDepth 100000 in
theorem c_worldNumber {hp : AH} (a i : Int32) : Ans l 1 X sgX7_worldNumber [.int a, .int i] hp (wnF a i 32 0 0) := by
  refine Ctr.of okX7_worldNumber rfl (Nat.le_of_ble_eq_true rfl) (run_sound okX7_worldNumber (fun i => Nat.beq i 4) 100 ?_)
  have key : ∀ j, j ≤ 32 → ∀ ah, wnF a i 32 0 0 = wnF a i (32 - j) j ah → WP l (rmD 1 0 0) X sgX7_worldNumber kX7_worldNumber (fun h w => h = hp ∧ w = some (.int (wnF a i 32 0 0))) 4 [some (.int a), some (.int i), some (.int ah), some (.int (nI j))] [] hp 0 0 := by
    refine down (fun ah h => ?_) (fun j hj ih ah h => ?_)
    · exact run_sound okX7_worldNumber (fun i => Nat.beq i 4) 100 (brT (Int32.le_refl _) ⟨rfl, some_int h.symm⟩)
    · rw [show 32 - j = (32 - (j + 1)) + 1 by omega, wnF] at h
      refine run_sound okX7_worldNumber (fun i => Nat.beq i 4) 100 (brF (ge_no (n := 32) rfl hj (by decide)) (kH (c_bit _ _) (by decide) (br (fun h1 => br (fun h2 => ⟨rfl, some_int ?_⟩) (fun h2 => ?_)) (fun h1 => ?_))))
      · exact (h.trans ((if_pos h1).trans (if_pos h2))).symm
      · have ih := ih (ah + 1) (h.trans ((if_pos h1).trans (if_neg h2)))
        rw [← nI_1 j] at ih
        exact ih
      · have ih := ih ah (h.trans (if_neg h1))
        rw [← nI_1 j] at ih
        exact ih
  exact key 0 (Nat.zero_le _) 0 rfl
def lotF (x : Int64) : Int64 := x * 48271 - x * 48271 / 2147483647 * 2147483647
set_option maxRecDepth 100000 in
theorem c_lotBehind {hp : AH} (x : Int64) : AnsL l 0 X sgX7_lotBehind [.long x] hp (lotF x) := by
  refine Ctr.of okX7_lotBehind rfl (Nat.le_of_ble_eq_true rfl) (run_sound okX7_lotBehind noCut 100 ?_)
  exact And.intro (by decide) ⟨rfl, rfl, rfl⟩
def ansF (S : CS) (B : BQ) (truth n even : Int32) : Int32 :=
  if bitF (nextF S B.1 B.2.1 0 n) truth = 1 ∧ (¬ bitF (nextF S B.1 B.2.1 1 n) truth = 1 ∨ ¬ even = 0) then nextF S B.1 B.2.1 0 n
  else if bitF (nextF S B.1 B.2.1 1 n) truth = 1 then nextF S B.1 B.2.1 1 n else -1
set_option maxRecDepth 100000 in
theorem c_answered (hL : CLen S) (truth n even : Int32) : Ans l 3 X sgX7_answered [.ref 0, .int truth, .int n, .int even] (encC S ++ T) (ansF S (getB S) truth n even) := by
  refine Ctr.of okX7_answered rfl (Nat.le_of_ble_eq_true rfl) (run_sound okX7_answered noCut 200 ?_)
  refine kH (c_sayableNext hL _ _ _ _) (by decide) (kH (c_sayableNext hL _ _ _ _) (by decide) (kH (c_bit _ _) (by decide) ?_))
  refine br (fun h1 => kH (c_bit _ _) (by decide) (br (fun h2 => ?_) (fun h2 => ?_))) (fun h1 => kH (c_bit _ _) (by decide) (br (fun h2 => ?_) (fun h2 => ?_)))
  · refine brF (by decide) (brF (by decide) (br (fun h3 => brF (by decide) ⟨rfl, some_int ?_⟩) (fun h3 => ⟨rfl, some_int ?_⟩)))
    · exact ((if_neg (fun z => z.2.elim (fun q => q h2) (fun q => q h3))).trans (if_pos h2)).symm
    · exact (if_pos ⟨h1, Or.inr h3⟩).symm
  · refine brF (by decide) (brT rfl ⟨rfl, some_int ?_⟩)
    exact (if_pos ⟨h1, Or.inl h2⟩).symm
  · refine brT rfl (brF (by decide) ⟨rfl, some_int ?_⟩)
    exact ((if_neg (fun z => h1 z.1)).trans (if_pos h2)).symm
  · refine brT rfl (brT rfl ⟨rfl, some_int ?_⟩)
    exact ((if_neg (fun z => h1 z.1)).trans (if_neg h2)).symm
/-- a stranger's questions: what is left, the lot; how many were asked -/
def saL (S : CS) (nt ns nk : Nat) (truth : Int32) : Nat → Nat → BQ → Int32 → Int64 → BQ × Nat
  | 0, i, B, _, _ => (B, i)
  | m + 1, i, B, left, lot =>
    if bcF left ≤ 1 then (B, i) else
    let B' := fbO (setB S B) left (S.1 134 + nI i) nt ns
    if ns = 0 then (B', i) else
    saL S nt ns nk truth m (i + 1) B' (left &&& ansF S B' truth (S.1 134 + nI i) (bI (lotF lot - lotF lot / 2 * 2 = 0))) (lotF lot)
def saA (S : CS) (nt ns nk : Nat) (seed fit : Int32) : BQ × Nat := saL S nt ns nk (wnF fit (lotF (seed.toInt64 + 1) - lotF (seed.toInt64 + 1) / (bcF fit).toInt64 * (bcF fit).toInt64).toInt32 32 0 0) 6 0 (getB S) fit (lotF (seed.toInt64 + 1))
theorem lg_cmp0 {x y : Int64} : lg_cmp x y = 0 ↔ x = y := by
  unfold lg_cmp
  simp only [gt_iff_lt, Int64.lt_iff_toInt_lt, ← Int64.toInt_inj]
  constructor
  · intro h
    split at h
    · exact absurd h (by decide)
    · split at h
      · assumption
      · exact absurd h (by decide)
  · intro h
    rw [if_neg (by omega), if_pos h]
theorem bcF_64 {a : Int32} (h : ¬ bcF a = 0) : ¬ (bcF a).toInt64 = 0 := by
  intro z
  apply h
  have := congrArg Int64.toInt z
  rw [Int32.toInt_toInt64] at this
  exact Int32.toInt_inj.mp (this.trans rfl)
set_option maxRecDepth 100000 in
theorem c_strangerAsks (hI : CInv S nt ns nk) (seed fit : Int32) (hf : ¬ bcF fit = 0) : Ctr l 5 X sgX7_strangerAsks [.ref 0, .int seed, .int fit] (encC S ++ T) (fun h w => h = encC (setB S (saA S nt ns nk seed fit).1) ++ T ∧ w = some (.int (nI (saA S nt ns nk seed fit).2))) := by
  have hL := hI.1
  have hk : S.1 134 = nI nk := hI.2.2.2.2.2.1
  refine Ctr.of okX7_strangerAsks rfl (Nat.le_of_ble_eq_true rfl) (run_sound okX7_strangerAsks (fun i => Nat.beq i 27) 200 ?_)
  refine kH (c_bitCount _) (by decide) (brF hf (kH (c_lotBehind _) (by decide) (And.intro (bcF_64 hf) (kH (c_worldNumber _ _) (by decide) ?_))))
  have key : ∀ j, j ≤ 6 → ∀ (B : BQ) (left : Int32) (lot : Int64) x10, saA S nt ns nk seed fit = saL S nt ns nk (wnF fit (lotF (seed.toInt64 + 1) - lotF (seed.toInt64 + 1) / (bcF fit).toInt64 * (bcF fit).toInt64).toInt32 32 0 0) (6 - j) j B left lot →
      WP l (rmD 5 0 0) X sgX7_strangerAsks kX7_strangerAsks (fun h w => h = encC (setB S (saA S nt ns nk seed fit).1) ++ T ∧ w = some (.int (nI (saA S nt ns nk seed fit).2))) 27 [some (.ref 0), some (.int seed), some (.int fit), some (.int (bcF fit)), some (.long lot), none, some (.int (wnF fit (lotF (seed.toInt64 + 1) - lotF (seed.toInt64 + 1) / (bcF fit).toInt64 * (bcF fit).toInt64).toInt32 32 0 0)), some (.int left), some (.int (nI j)), some (.int (nI j)), x10] [] (encC (setB S B) ++ T) 0 0 := by
    refine down (fun B left lot x10 h => ?_) (fun j hj ih B left lot x10 h => ?_)
    · refine run_sound okX7_strangerAsks (fun i => Nat.beq i 27) 200 (brT (Int32.le_refl _) ⟨?_, ?_⟩)
      · rw [h]; rfl
      · rw [h]; rfl
    · rw [show 6 - j = (6 - (j + 1)) + 1 by omega, saL] at h
      refine run_sound okX7_strangerAsks (fun i => Nat.beq i 27) 200 (brF (ge_no (n := 6) rfl hj (by decide)) (kH (c_bitCount _) (by decide) (br (fun h1 => ?_) (fun h1 => ?_))))
      · rw [if_pos (show bcF left ≤ 1 from h1)] at h
        refine ⟨?_, ?_⟩
        · rw [h]
        · rw [h]
      · rw [if_neg (show ¬ bcF left ≤ 1 from h1)] at h
        refine kH (c_findBest (hI.setB B) _ _) (by decide) (brB' (fun h2 => ?_) (fun h2 => ?_))
        · rw [if_pos (show ns = 0 by omega)] at h
          refine ⟨?_, ?_⟩
          · rw [h]; rfl
          · rw [h]
        · rw [if_neg (show ¬ ns = 0 by omega)] at h
          refine kH (c_lotBehind _) (by decide) (And.intro (by decide) (br (fun h3 => ?_) (fun h3 => ?_)))
          · refine kH (c_answered (S := setB S (fbO (setB S B) left (S.1 134 + nI j) nt ns)) hL _ _ _) (by decide) ?_
            rw [bI_t (show lotF lot - lotF lot / 2 * 2 = 0 from lg_cmp0.mp h3)] at h
            have ih := ih _ _ _ (some (.int (S.1 134 + nI j))) h
            rw [← nI_1 j] at ih
            exact ih
          · refine kH (c_answered (S := setB S (fbO (setB S B) left (S.1 134 + nI j) nt ns)) hL _ _ _) (by decide) ?_
            rw [bI_f (show ¬ lotF lot - lotF lot / 2 * 2 = 0 from fun z => h3 (lg_cmp0.mpr z))] at h
            have ih := ih _ _ _ (some (.int (S.1 134 + nI j))) h
            rw [← nI_1 j] at ih
            exact ih
  exact key 0 (Nat.zero_le _) (getB S) fit (lotF (seed.toInt64 + 1)) none rfl
end QUEST3
