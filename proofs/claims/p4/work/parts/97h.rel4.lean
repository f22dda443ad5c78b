/-! BOTH SIDES ALIKE: sheets made -/
section REL4
variable {l : Launch} {X : List (List Int32)} {S : CS} {T : AH} {M : MS} {nt ns nk ta : Nat}
def kmkS (S : CS) (a : Nat) (sort n : Int32) : CS := cR (cR (cR S 22 ((S.2 22).set a sort)) 23 ((S.2 23).set a n)) 24 (zeC (fun _ => 0) (S.2 24) a 40)
set_option maxRecDepth 100000 in
theorem P_make (hL : CLen S) {a : Nat} (ha : a < 4) (sort n : Int32) : Ctr l 1 X sgX3_make [.ref 21, .int (nI a), .int sort, .int n] (encC S ++ T) (fun h w => h = encC (kmkS S a sort n) ++ T ∧ w = none) := by
  have h24 := hL.lt 24
  have e22 : putF (S.2 22) (nI a) sort = (S.2 22).set a sort := putF_n (by omega)
  have e23 : putF (S.2 23) (nI a) n = (S.2 23).set a n := putF_n (by omega)
  unfold kmkS
  rw [← e22, ← e23]
  refine Ctr.of okX3_make rfl (Nat.le_of_ble_eq_true rfl) (run_sound okX3_make (fun i => Nat.beq i 12) 200 ?_)
  have key : ∀ j, j ≤ 40 → WP l (rmD 1 0 0) X sgX3_make kX3_make (fun h w => h = encC (cR (cR (cR S 22 (putF (S.2 22) (nI a) sort)) 23 (putF (S.2 23) (nI a) n)) 24 (zeC (fun _ => 0) (S.2 24) a 40)) ++ T ∧ w = none) 12 [some (.ref 21), some (.int (nI a)), some (.int sort), some (.int n), some (.int (nI j))] [] (encC (cR (cR (cR S 22 (putF (S.2 22) (nI a) sort)) 23 (putF (S.2 23) (nI a) n)) 24 (zeC (fun _ => 0) (S.2 24) a j)) ++ T) 0 0 := by
    refine down ?_ (fun j hj ih => ?_)
    · exact run_sound okX3_make (fun i => Nat.beq i 12) 200 (brT (Int32.le_refl _) ⟨rfl, rfl, rfl⟩)
    · refine run_sound okX3_make (fun i => Nat.beq i 12) 200 (brF (ge_no (n := 40) rfl hj (by decide)) (kH (c_put (xs := zeC (fun _ => 0) (S.2 24) a j) rfl rfl (by rw [zeC_len]; exact h24)) (by decide) ?_))
      have e : nI a * Int32.ofInt 40 + nI j = nI (40 * a + j) := by rw [show nI a * Int32.ofInt 40 = nI (a * 40) from nI_mul a 40, nI_add, Nat.mul_comm]
      have e2 : putF (zeC (fun _ => 0) (S.2 24) a j) (nI a * Int32.ofInt 40 + nI j) 0 = zeC (fun _ => 0) (S.2 24) a (j + 1) := by rw [e, putF_n (by omega)]; rfl
      rw [← e2, ← nI_1 j] at ih
      exact ih
  exact kH (c_put (xs := S.2 22) rfl rfl (hL.lt 22)) (by decide) (kH (c_put (xs := S.2 23) rfl rfl (hL.lt 23)) (by decide) (key 0 (Nat.zero_le _)))
def kshG (S : CS) (s sort n : Int32) : CS × Int32 := if p3P s ∧ m2P sort ∧ (sort = -1 ∨ n ≤ 40) then (if ¬ sort = -1 ∧ n < 0 then (S, -14) else (kmkS S s.toNatClampNeg sort (if sort = -1 then 0 else n), 1)) else (S, -2)
set_option maxRecDepth 100000 in
theorem P_sheet (hL : CLen S) (s sort n : Int32) : Ctr l 2 X sgX7_sheet [.ref 0, .int s, .int sort, .int n] (encC S ++ T) (kpQ T (kshG S s sort n)) := by
  refine Ctr.of okX7_sheet rfl (Nat.le_of_ble_eq_true rfl) (run_sound okX7_sheet noCut 200 ?_)
  refine kH (k_B s 4 3 (by decide)) (by decide) (brB' (fun q => kp (if_neg (fun z => q z.1))) (fun q => br (fun h1 => kp (if_neg (fun z => absurd h1 (Int32.not_lt.mpr z.2.1.1)))) (fun h1 => br (fun h2 => ?_) (fun h2 => kp (if_neg (fun z => h2 z.2.1.2))))))
  have q2 : m2P sort := ⟨Int32.not_lt.mp h1, h2⟩
  obtain ⟨a, ha, rfl⟩ := in03n q
  refine br (fun h3 => ⟨1, _, by decide, P_make hL ha _ _, ?_⟩) (fun h3 => br (fun h4 => br (fun h5 => ⟨1, _, by decide, P_make hL ha _ _, ?_⟩) (fun h5 => kp ?_)) (fun h4 => kp ?_))
  · rintro hp' w ⟨rfl, rfl⟩
    have h3 : sort = -1 := h3
    refine kp (((if_pos ⟨q, q2, Or.inl h3⟩).trans (if_neg (fun z => z.1 h3))).trans ?_)
    rw [nI_clamp (by omega), if_pos h3, h3]
    rfl
  · rintro hp' w ⟨rfl, rfl⟩
    have h3 : ¬ sort = -1 := h3
    refine kp (((if_pos ⟨q, q2, Or.inr h4⟩).trans (if_neg (fun z => absurd z.2 (Int32.not_lt.mpr h5)))).trans ?_)
    rw [nI_clamp (by omega), if_neg h3]
    rfl
  · exact (if_pos ⟨q, q2, Or.inr h4⟩).trans (if_pos ⟨h3, Int32.not_le.mp h5⟩)
  · exact if_neg (fun z => z.2.2.elim h3 h4)
theorem kmk24 (S : CS) (a : Nat) (sort n : Int32) : (kmkS S a sort n).2 24 = zeC (fun _ => 0) (S.2 24) a 40 := by
  unfold kmkS
  generalize zeC (fun _ => 0) (S.2 24) a 40 = c
  rfl
theorem shM19 (M : MS) (a : Nat) (sort n : Int32) : (shM M a sort n).2.1 19 = zeC (fun _ => 0) (M.2.1 19) a 40 := by
  unfold shM
  generalize zeC (fun _ => 0) (M.2.1 19) a 40 = c
  rfl
theorem sheet_rel (r : RSh S M) (s sort n : Int32) : RSh (kshG S s sort n).1 (shG M s sort n).1 ∧ (kshG S s sort n).2 = (shG M s sort n).2 := by
  have rr := r
  obtain ⟨r1, r2, r3⟩ := r
  unfold kshG shG
  by_cases q : p3P s ∧ m2P sort ∧ (sort = -1 ∨ n ≤ 40)
  · rw [if_pos q, if_pos q]
    by_cases q2 : ¬ sort = -1 ∧ n < 0
    · rw [if_pos q2, if_pos q2]
      exact ⟨rr, rfl⟩
    · rw [if_neg q2, if_neg q2]
      refine ⟨⟨?_, ?_, ?_⟩, rfl⟩
      · show (S.2 22).set s.toNatClampNeg sort = (M.2.1 17).set s.toNatClampNeg sort
        rw [r1]
      · show (S.2 23).set s.toNatClampNeg (if sort = -1 then 0 else n) = (M.2.1 18).set s.toNatClampNeg (if sort = -1 then 0 else n)
        rw [r2]
      · exact (kmk24 S _ _ _).trans ((congrArg (fun c => zeC (fun _ => 0) c s.toNatClampNeg 40) r3).trans (shM19 M _ _ _).symm)
  · rw [if_neg q, if_neg q]
    exact ⟨rr, rfl⟩
end REL4
