/-! THE REFERENCE in general: images, sheets, what is taken -/
section MSHE
variable {l : Launch} {X : List (List Int32)} {S : CS} {M : MS} {hp : AH} {nt ns nk : Nat}
theorem copy_step {xs ys : List Int32} {j : Nat} (hj : j < xs.length) (hl : xs.length = ys.length) : (xs.take j ++ ys.drop j).set j (xs.getD j 0) = xs.take (j + 1) ++ ys.drop (j + 1) := by
  apply List.ext_getElem?
  intro k
  have hk : (xs.take j).length = j := by simp; omega
  have hk1 : (xs.take (j + 1)).length = j + 1 := by simp; omega
  by_cases e : k = j
  · subst e
    rw [List.getElem?_set_self (by simp; omega), List.getElem?_append_left (by omega), List.getElem?_take_of_lt (by omega), List.getD_eq_getElem?_getD, List.getElem?_eq_getElem hj]
    rfl
  · rw [List.getElem?_set_ne (fun z => e z.symm)]
    by_cases h : k < j
    · rw [List.getElem?_append_left (by omega), List.getElem?_append_left (by omega), List.getElem?_take_of_lt h, List.getElem?_take_of_lt (by omega)]
    · rw [List.getElem?_append_right (by omega), List.getElem?_append_right (by omega), hk, hk1, List.getElem?_drop, List.getElem?_drop]
      congr 1
      omega
/-- half copied -/
abbrev cpH (xs ys : List Int32) (j : Nat) : List Int32 := xs.take j ++ ys.drop j
theorem cpH_len {xs ys : List Int32} {j : Nat} (hj : j ≤ xs.length) (hl : xs.length = ys.length) : (cpH xs ys j).length = xs.length := by simp; omega
theorem cpH_all {xs ys : List Int32} (hl : xs.length = ys.length) : cpH xs ys xs.length = xs := by
  unfold cpH
  rw [List.take_length, List.drop_eq_nil_of_le (by omega), List.append_nil]
def imM (M : MS) : MS := mR (mR (mN (mN (mN (mN M 11 1) 12 (M.1 0)) 13 (M.1 3)) 14 (M.1 10)) 15 (M.2.1 1 ++ M.2.1 2)) 16 (M.2.1 4)
set_option maxRecDepth 100000 in
set_option maxHeartbeats 2000000 in
theorem g_image (hM : MLen M) : Ctr l 0 X sgX8_image [.ref 27] (mk S M) (rsQ S (imM M, M.1 3)) := by
  obtain ⟨l1, l2, l4, l5, l7, l8, l15, l16, -⟩ := hM
  refine Ctr.of okX8_image rfl (Nat.le_of_ble_eq_true rfl) (run_sound okX8_image (fun i => Nat.beq i 17 || Nat.beq i 42) 300 ?_)
  refine And.intro (Or.inr rfl) (And.intro trivial (And.intro trivial (And.intro trivial ?_)))
  obtain ⟨M0, hM0⟩ : ∃ M0, M0 = mN (mN (mN (mN M 11 1) 12 (M.1 0)) 13 (M.1 3)) 14 (M.1 10) := ⟨_, rfl⟩
  have f1 : (M0.2.1 1).length = 5 := by subst hM0; exact l1
  have f2 : (M0.2.1 2).length = 5 := by subst hM0; exact l2
  have f4 : (M0.2.1 4).length = 36 := by subst hM0; exact l4
  have f16 : (M0.2.1 16).length = 36 := by subst hM0; exact l16
  have f15 : (M0.2.1 15).length = 10 := by subst hM0; exact l15
  have fin : mk S (mR (mR M0 15 (M0.2.1 1 ++ M0.2.1 2)) 16 (M0.2.1 4)) = mk S (imM M) ∧ M0.1 3 = M.1 3 := by subst hM0; exact ⟨rfl, rfl⟩
  have k2 : ∀ j, j ≤ 36 → ∀ a, WP l (rmD 0 0 0) X sgX8_image kX8_image (fun h w => h = mk S (mR (mR M0 15 a) 16 (M0.2.1 4)) ∧ w = some (.int (M0.1 3))) 42 [some (.ref 27), some (.int (nI j))] [] (mk S (mR (mR M0 15 a) 16 (cpH (M0.2.1 4) (M0.2.1 16) j))) 0 0 := by
    refine down (fun a => ?_) (fun j hj ih a => ?_)
    · refine run_sound okX8_image (fun i => Nat.beq i 42) 200 (brT (Int32.le_refl _) ⟨?_, rfl⟩)
      rw [show (36 : Nat) = (M0.2.1 4).length from f4.symm, cpH_all (by omega)]
    · refine run_sound okX8_image (fun i => Nat.beq i 42) 200 (brF (ge_no (n := 36) rfl hj (by decide)) (Exists.intro _ (And.intro rfl (And.intro ?_ (Exists.intro _ (And.intro rfl (And.intro ?_ ?_)))))))
      · show vp_in (nI j) (M0.2.1 4).length
        rw [f4]; exact vp_nI hj (by decide)
      · show vp_in (nI j) (cpH (M0.2.1 4) (M0.2.1 16) j).length
        rw [cpH_len (by omega) (by omega), f4]; exact vp_nI hj (by decide)
      · have ih := ih a
        have en : (nI j).toNatClampNeg = j := nI_clamp (by omega)
        have eh : cpH (M0.2.1 4) (M0.2.1 16) (j + 1) = (cpH (M0.2.1 4) (M0.2.1 16) j).set (nI j).toNatClampNeg ((M0.2.1 4).getD (nI j).toNatClampNeg 0) := by rw [en]; exact (copy_step (by omega) (by omega)).symm
        rw [eh, ← nI_1 j] at ih
        exact ih
  have k1 : ∀ j, j ≤ 5 → WP l (rmD 0 0 0) X sgX8_image kX8_image (rsQ S (imM M, M.1 3)) 17 [some (.ref 27), some (.int (nI j))] [] (mk S (mR M0 15 (cpH (M0.2.1 1) ((M0.2.1 15).take 5) j ++ cpH (M0.2.1 2) ((M0.2.1 15).drop 5) j))) 0 0 := by
    have t5 : ((M0.2.1 15).take 5).length = 5 := by simp; omega
    have d5 : ((M0.2.1 15).drop 5).length = 5 := by simp; omega
    refine down ?_ (fun j hj ih => ?_)
    · have q := k2 0 (Nat.zero_le _) (M0.2.1 1 ++ M0.2.1 2)
      rw [fin.1, fin.2] at q
      have e1 : cpH (M0.2.1 1) ((M0.2.1 15).take 5) 5 = M0.2.1 1 := by have y := cpH_all (xs := M0.2.1 1) (ys := (M0.2.1 15).take 5) (by omega); rw [f1] at y; exact y
      have e2 : cpH (M0.2.1 2) ((M0.2.1 15).drop 5) 5 = M0.2.1 2 := by have y := cpH_all (xs := M0.2.1 2) (ys := (M0.2.1 15).drop 5) (by omega); rw [f2] at y; exact y
      rw [e1, e2]
      exact run_sound okX8_image (fun i => Nat.beq i 42) 200 (brT (Int32.le_refl _) q)
    · have en : (nI j).toNatClampNeg = j := nI_clamp (by omega)
      have e5 : Int32.ofInt 5 + nI j = nI (5 + j) := nI_add 5 j
      have c1 : (cpH (M0.2.1 1) ((M0.2.1 15).take 5) j).length = 5 := by rw [cpH_len (by omega) (by omega), f1]
      have c2 : (cpH (M0.2.1 2) ((M0.2.1 15).drop 5) j).length = 5 := by rw [cpH_len (by omega) (by omega), f2]
      have s1 : (cpH (M0.2.1 1) ((M0.2.1 15).take 5) j ++ cpH (M0.2.1 2) ((M0.2.1 15).drop 5) j).set (nI j).toNatClampNeg ((M0.2.1 1).getD (nI j).toNatClampNeg 0) = cpH (M0.2.1 1) ((M0.2.1 15).take 5) (j + 1) ++ cpH (M0.2.1 2) ((M0.2.1 15).drop 5) j := by
        rw [en, List.set_append_left _ _ (by omega), copy_step (by omega) (by omega)]
      have s2 : (cpH (M0.2.1 1) ((M0.2.1 15).take 5) (j + 1) ++ cpH (M0.2.1 2) ((M0.2.1 15).drop 5) j).set (Int32.ofInt 5 + nI j).toNatClampNeg ((M0.2.1 2).getD (nI j).toNatClampNeg 0) = cpH (M0.2.1 1) ((M0.2.1 15).take 5) (j + 1) ++ cpH (M0.2.1 2) ((M0.2.1 15).drop 5) (j + 1) := by
        have c1' : (cpH (M0.2.1 1) ((M0.2.1 15).take 5) (j + 1)).length = 5 := by rw [cpH_len (by omega) (by omega), f1]
        rw [en, e5, nI_clamp (by omega), List.set_append_right _ _ (by omega), c1', show 5 + j - 5 = j by omega, copy_step (by omega) (by omega)]
      rw [← s2, ← s1, ← nI_1 j] at ih
      refine run_sound okX8_image (fun i => Nat.beq i 17 || Nat.beq i 42) 200 (brF (ge_no (n := 5) rfl hj (by decide)) (Exists.intro _ (And.intro rfl (And.intro ?_ (Exists.intro _ (And.intro rfl (And.intro ?_ (Exists.intro _ (And.intro rfl (And.intro ?_ (Exists.intro _ (And.intro rfl (And.intro ?_ ih)))))))))))))
      · show vp_in (nI j) (M0.2.1 1).length
        rw [f1]; exact vp_nI hj (by decide)
      · show vp_in (nI j) (cpH (M0.2.1 1) ((M0.2.1 15).take 5) j ++ cpH (M0.2.1 2) ((M0.2.1 15).drop 5) j).length
        rw [List.length_append, c1, c2]; exact vp_nI (by omega) (by decide)
      · show vp_in (nI j) (M0.2.1 2).length
        rw [f2]; exact vp_nI hj (by decide)
      · show vp_in (Int32.ofInt 5 + nI j) ((cpH (M0.2.1 1) ((M0.2.1 15).take 5) j ++ cpH (M0.2.1 2) ((M0.2.1 15).drop 5) j).set (nI j).toNatClampNeg ((M0.2.1 1).getD (nI j).toNatClampNeg 0)).length
        rw [List.length_set, List.length_append, c1, c2, e5]; exact vp_nI (by omega) (by decide)
  have q := k1 0 (Nat.zero_le _)
  have e0 : mk S (mR M0 15 (cpH (M0.2.1 1) ((M0.2.1 15).take 5) 0 ++ cpH (M0.2.1 2) ((M0.2.1 15).drop 5) 0)) = mk S M0 := by
    show mk S (mR M0 15 ((M0.2.1 15).take 5 ++ (M0.2.1 15).drop 5)) = mk S M0
    rw [List.take_append_drop]
    rfl
  rw [e0] at q
  subst hM0
  exact q
def bkM (M : MS) : MS := mN (mN (mN (mR (mR (mR M 1 ((M.2.1 15).take 5)) 2 ((M.2.1 15).drop 5)) 4 (M.2.1 16)) 0 (M.1 12)) 3 (M.1 13)) 10 (M.1 14)
def bkG (M : MS) : MS × Int32 := if M.1 11 = 0 then (M, -3) else (bkM M, M.1 13)
set_option maxRecDepth 100000 in
set_option maxHeartbeats 2000000 in
theorem g_back (hM : MLen M) : Ctr l 0 X sgX8_back [.ref 27] (mk S M) (rsQ S (bkG M)) := by
  obtain ⟨l1, l2, l4, l5, l7, l8, l15, l16, -⟩ := hM
  refine Ctr.of okX8_back rfl (Nat.le_of_ble_eq_true rfl) (run_sound okX8_back (fun i => Nat.beq i 19 || Nat.beq i 44) 300 ?_)
  refine br (fun p => rs_i (if_pos p) rfl) (fun p => And.intro trivial (And.intro trivial (And.intro trivial ?_)))
  rw [show bkG M = (bkM M, M.1 13) from if_neg p]
  obtain ⟨M0, hM0⟩ : ∃ M0, M0 = mN (mN (mN M 0 (M.1 12)) 3 (M.1 13)) 10 (M.1 14) := ⟨_, rfl⟩
  have f1 : (M0.2.1 1).length = 5 := by subst hM0; exact l1
  have f2 : (M0.2.1 2).length = 5 := by subst hM0; exact l2
  have f4 : (M0.2.1 4).length = 36 := by subst hM0; exact l4
  have f16 : (M0.2.1 16).length = 36 := by subst hM0; exact l16
  have f15 : (M0.2.1 15).length = 10 := by subst hM0; exact l15
  have t5 : ((M0.2.1 15).take 5).length = 5 := by simp; omega
  have d5 : ((M0.2.1 15).drop 5).length = 5 := by simp; omega
  have fin : mk S (mR (mR (mR M0 1 ((M0.2.1 15).take 5)) 2 ((M0.2.1 15).drop 5)) 4 (M0.2.1 16)) = mk S (bkM M) ∧ M0.1 3 = M.1 13 := by subst hM0; exact ⟨rfl, rfl⟩
  have k2 : ∀ j, j ≤ 36 → ∀ a b, WP l (rmD 0 0 0) X sgX8_back kX8_back (fun h w => h = mk S (mR (mR (mR M0 1 a) 2 b) 4 (M0.2.1 16)) ∧ w = some (.int (M0.1 3))) 44 [some (.ref 27), some (.int (nI j))] [] (mk S (mR (mR (mR M0 1 a) 2 b) 4 (cpH (M0.2.1 16) (M0.2.1 4) j))) 0 0 := by
    refine down (fun a b => ?_) (fun j hj ih a b => ?_)
    · refine run_sound okX8_back (fun i => Nat.beq i 44) 200 (brT (Int32.le_refl _) ⟨?_, rfl⟩)
      rw [show (36 : Nat) = (M0.2.1 16).length from f16.symm, cpH_all (by omega)]
    · refine run_sound okX8_back (fun i => Nat.beq i 44) 200 (brF (ge_no (n := 36) rfl hj (by decide)) (Exists.intro _ (And.intro rfl (And.intro ?_ (Exists.intro _ (And.intro rfl (And.intro ?_ ?_)))))))
      · show vp_in (nI j) (M0.2.1 16).length
        rw [f16]; exact vp_nI hj (by decide)
      · show vp_in (nI j) (cpH (M0.2.1 16) (M0.2.1 4) j).length
        rw [cpH_len (by omega) (by omega), f16]; exact vp_nI hj (by decide)
      · have ih := ih a b
        have en : (nI j).toNatClampNeg = j := nI_clamp (by omega)
        have eh : cpH (M0.2.1 16) (M0.2.1 4) (j + 1) = (cpH (M0.2.1 16) (M0.2.1 4) j).set (nI j).toNatClampNeg ((M0.2.1 16).getD (nI j).toNatClampNeg 0) := by rw [en]; exact (copy_step (by omega) (by omega)).symm
        rw [eh, ← nI_1 j] at ih
        exact ih
  have k1 : ∀ j, j ≤ 5 → WP l (rmD 0 0 0) X sgX8_back kX8_back (rsQ S (bkM M, M.1 13)) 19 [some (.ref 27), some (.int (nI j))] [] (mk S (mR (mR M0 1 (cpH ((M0.2.1 15).take 5) (M0.2.1 1) j)) 2 (cpH ((M0.2.1 15).drop 5) (M0.2.1 2) j))) 0 0 := by
    refine down ?_ (fun j hj ih => ?_)
    · have q := k2 0 (Nat.zero_le _) ((M0.2.1 15).take 5) ((M0.2.1 15).drop 5)
      rw [fin.1, fin.2] at q
      have e1 : cpH ((M0.2.1 15).take 5) (M0.2.1 1) 5 = (M0.2.1 15).take 5 := by have y := cpH_all (xs := (M0.2.1 15).take 5) (ys := M0.2.1 1) (by omega); rw [t5] at y; exact y
      have e2 : cpH ((M0.2.1 15).drop 5) (M0.2.1 2) 5 = (M0.2.1 15).drop 5 := by have y := cpH_all (xs := (M0.2.1 15).drop 5) (ys := M0.2.1 2) (by omega); rw [d5] at y; exact y
      rw [e1, e2]
      exact run_sound okX8_back (fun i => Nat.beq i 44) 200 (brT (Int32.le_refl _) q)
    · have en : (nI j).toNatClampNeg = j := nI_clamp (by omega)
      have e5 : Int32.ofInt 5 + nI j = nI (5 + j) := nI_add 5 j
      have g1 : (M0.2.1 15).getD (nI j).toNatClampNeg 0 = ((M0.2.1 15).take 5).getD j 0 := by
        rw [en, List.getD_eq_getElem?_getD, List.getD_eq_getElem?_getD, List.getElem?_take_of_lt (by omega)]
      have g2 : (M0.2.1 15).getD (Int32.ofInt 5 + nI j).toNatClampNeg 0 = ((M0.2.1 15).drop 5).getD j 0 := by
        rw [e5, nI_clamp (by omega), List.getD_eq_getElem?_getD, List.getD_eq_getElem?_getD, List.getElem?_drop]
      have s1 : cpH ((M0.2.1 15).take 5) (M0.2.1 1) (j + 1) = (cpH ((M0.2.1 15).take 5) (M0.2.1 1) j).set (nI j).toNatClampNeg ((M0.2.1 15).getD (nI j).toNatClampNeg 0) := by rw [g1, en]; exact (copy_step (by omega) (by omega)).symm
      have s2 : cpH ((M0.2.1 15).drop 5) (M0.2.1 2) (j + 1) = (cpH ((M0.2.1 15).drop 5) (M0.2.1 2) j).set (nI j).toNatClampNeg ((M0.2.1 15).getD (Int32.ofInt 5 + nI j).toNatClampNeg 0) := by rw [g2, en]; exact (copy_step (by omega) (by omega)).symm
      rw [s1, s2, ← nI_1 j] at ih
      refine run_sound okX8_back (fun i => Nat.beq i 19 || Nat.beq i 44) 200 (brF (ge_no (n := 5) rfl hj (by decide)) (Exists.intro _ (And.intro rfl (And.intro ?_ (Exists.intro _ (And.intro rfl (And.intro ?_ (Exists.intro _ (And.intro rfl (And.intro ?_ (Exists.intro _ (And.intro rfl (And.intro ?_ ih)))))))))))))
      · show vp_in (nI j) (M0.2.1 15).length
        rw [f15]; exact vp_nI (by omega) (by decide)
      · show vp_in (nI j) (cpH ((M0.2.1 15).take 5) (M0.2.1 1) j).length
        rw [cpH_len (by omega) (by omega), t5]; exact vp_nI hj (by decide)
      · show vp_in (Int32.ofInt 5 + nI j) (M0.2.1 15).length
        rw [f15, e5]; exact vp_nI (by omega) (by decide)
      · show vp_in (nI j) (cpH ((M0.2.1 15).drop 5) (M0.2.1 2) j).length
        rw [cpH_len (by omega) (by omega), d5]; exact vp_nI hj (by decide)
  have q := k1 0 (Nat.zero_le _)
  have e0 : mk S (mR (mR M0 1 (cpH ((M0.2.1 15).take 5) (M0.2.1 1) 0)) 2 (cpH ((M0.2.1 15).drop 5) (M0.2.1 2) 0)) = mk S M0 := rfl
  rw [e0] at q
  subst hM0
  exact q
end MSHE
