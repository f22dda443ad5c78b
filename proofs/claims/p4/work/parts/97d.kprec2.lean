/-! THE CLASS in general: images, precisely -/
section KPREC2
variable {l : Launch} {X : List (List Int32)} {S : CS} {T : AH} {hp : AH}
theorem nI_ge0 {j : Nat} (hj : j < 2 ^ 31) : (0 : Int32) ≤ nI j := by
  rw [Int32.le_iff_toInt_le, nI_toInt hj]
  have e0 : (0 : Int32).toInt = 0 := by decide
  omega
theorem putF_n {zs : List Int32} {j : Nat} {v : Int32} (hj : j < 2 ^ 31) : putF zs (nI j) v = zs.set j v := by
  unfold putF
  rw [if_pos (nI_ge0 hj), nI_clamp hj]
theorem atF_n {zs : List Int32} {j : Nat} (hj : j < 2 ^ 31) : atF zs (nI j) = zs.getD j 0 := by
  unfold atF
  rw [if_pos (nI_ge0 hj), nI_clamp hj]
theorem cp_put {xs ys : List Int32} {j : Nat} (hj : j < xs.length) (hl : xs.length = ys.length) (h31 : j < 2 ^ 31) : putF (cpH xs ys j) (nI j) (atF xs (nI j)) = cpH xs ys (j + 1) := by
  rw [putF_n h31, atF_n h31]
  exact copy_step hj hl
theorem cp_0 (xs ys : List Int32) : cpH xs ys 0 = ys := rfl
theorem cp_n {xs ys : List Int32} {n : Nat} (hn : xs.length = n) (hl : xs.length = ys.length) : cpH xs ys n = xs := by
  rw [← hn]
  exact cpH_all hl
/-- the rows of both talks -/
def TkL (S : CS) : Prop := (S.2 14).length = 5 ∧ (S.2 15).length = 5 ∧ (S.2 16).length = 36 ∧ (S.2 18).length = 5 ∧ (S.2 19).length = 5 ∧ (S.2 20).length = 36
set_option maxRecDepth 100000 in
set_option maxHeartbeats 1000000 in
theorem P_keep (hL : CLen S) (hT : TkL S) : Ctr l 2 X sgX4_becomeLike [.ref 17, .ref 13] (encC S ++ T) (fun h w => h = encC (kepS S (S.2 14) (S.2 15) (S.2 16)) ++ T ∧ w = none) := by
  obtain ⟨l14, l15, l16, l18, l19, l20⟩ := hT
  refine Ctr.of okX4_becomeLike rfl (Nat.le_of_ble_eq_true rfl) (run_sound okX4_becomeLike cNli 200 ?_)
  have k2 : ∀ j, j ≤ 36 → WP l (rmD 2 0 0) X sgX4_becomeLike kX4_becomeLike (fun h w => h = encC (kepS S (S.2 14) (S.2 15) (S.2 16)) ++ T ∧ w = none) 23 [some (.ref 17), some (.ref 13), some (.int (nI j))] [] (encC (cR (cR (cR S 18 (S.2 14)) 19 (S.2 15)) 20 (cpH (S.2 16) (S.2 20) j)) ++ T) 0 0 := by
    refine down ?_ (fun j hj ih => ?_)
    · rw [cp_n l16 (l16.trans l20.symm)]
      exact run_sound okX4_becomeLike cNli 200 (brT (Int32.le_refl _) (And.intro trivial (And.intro trivial (And.intro trivial ⟨rfl, rfl, rfl⟩))))
    · have hlen : (cpH (S.2 16) (S.2 20) j).length < 2 ^ 31 := by rw [cpH_len (by omega) (l16.trans l20.symm), l16]; decide
      refine run_sound okX4_becomeLike cNli 200 (brF (ge_no (n := 36) rfl hj (by decide)) (kH (c_at (xs := S.2 16) rfl (hL.lt 16)) (by decide) (kH (c_put (xs := cpH (S.2 16) (S.2 20) j) rfl rfl hlen) (by decide) ?_)))
      rw [← cp_put (by omega) (l16.trans l20.symm) (by omega), ← nI_1 j] at ih
      exact ih
  have k1 : ∀ j, j ≤ 5 → WP l (rmD 2 0 0) X sgX4_becomeLike kX4_becomeLike (fun h w => h = encC (kepS S (S.2 14) (S.2 15) (S.2 16)) ++ T ∧ w = none) 5 [some (.ref 17), some (.ref 13), some (.int (nI j))] [] (encC (cR (cR S 18 (cpH (S.2 14) (S.2 18) j)) 19 (cpH (S.2 15) (S.2 19) j)) ++ T) 0 0 := by
    refine down ?_ (fun j hj ih => ?_)
    · rw [cp_n l14 (l14.trans l18.symm), cp_n l15 (l15.trans l19.symm)]
      exact run_sound okX4_becomeLike cNli 200 (brT (Int32.le_refl _) (k2 0 (Nat.zero_le _)))
    · have ha : (cpH (S.2 14) (S.2 18) j).length ≤ 1000 := by rw [cpH_len (by omega) (l14.trans l18.symm), l14]; decide
      have hb : (cpH (S.2 15) (S.2 19) j).length ≤ 1000 := by rw [cpH_len (by omega) (l15.trans l19.symm), l15]; decide
      refine run_sound okX4_becomeLike cNli 200 (brF (ge_no (n := 5) rfl hj (by decide)) (kH (c_at (xs := S.2 14) rfl (hL.lt 14)) (by decide) (kH (c_at (xs := S.2 15) rfl (hL.lt 15)) (by decide) (kH (c_become17 (len2 hL ha hb) _ _ _) (by decide) ?_))))
      rw [← cp_put (by omega) (l14.trans l18.symm) (by omega), ← cp_put (by omega) (l15.trans l19.symm) (by omega), ← nI_1 j] at ih
      exact ih
  exact k1 0 (Nat.zero_le _)
set_option maxRecDepth 100000 in
set_option maxHeartbeats 1000000 in
theorem P_likeBack (hL : CLen S) (hT : TkL S) : Ctr l 2 X sgX4_becomeLike [.ref 13, .ref 17] (encC S ++ T) (fun h w => h = encC (bakS S (S.2 18) (S.2 19) (S.2 20)) ++ T ∧ w = none) := by
  obtain ⟨l14, l15, l16, l18, l19, l20⟩ := hT
  refine Ctr.of okX4_becomeLike rfl (Nat.le_of_ble_eq_true rfl) (run_sound okX4_becomeLike cNli 200 ?_)
  have k2 : ∀ j, j ≤ 36 → WP l (rmD 2 0 0) X sgX4_becomeLike kX4_becomeLike (fun h w => h = encC (bakS S (S.2 18) (S.2 19) (S.2 20)) ++ T ∧ w = none) 23 [some (.ref 13), some (.ref 17), some (.int (nI j))] [] (encC (cR (cR (cR S 14 (S.2 18)) 15 (S.2 19)) 16 (cpH (S.2 20) (S.2 16) j)) ++ T) 0 0 := by
    refine down ?_ (fun j hj ih => ?_)
    · rw [cp_n l20 (l20.trans l16.symm)]
      exact run_sound okX4_becomeLike cNli 200 (brT (Int32.le_refl _) (And.intro trivial (And.intro trivial (And.intro trivial ⟨rfl, rfl, rfl⟩))))
    · have hlen : (cpH (S.2 20) (S.2 16) j).length < 2 ^ 31 := by rw [cpH_len (by omega) (l20.trans l16.symm), l20]; decide
      refine run_sound okX4_becomeLike cNli 200 (brF (ge_no (n := 36) rfl hj (by decide)) (kH (c_at (xs := S.2 20) rfl (hL.lt 20)) (by decide) (kH (c_put (xs := cpH (S.2 20) (S.2 16) j) rfl rfl hlen) (by decide) ?_)))
      rw [← cp_put (by omega) (l20.trans l16.symm) (by omega), ← nI_1 j] at ih
      exact ih
  have k1 : ∀ j, j ≤ 5 → WP l (rmD 2 0 0) X sgX4_becomeLike kX4_becomeLike (fun h w => h = encC (bakS S (S.2 18) (S.2 19) (S.2 20)) ++ T ∧ w = none) 5 [some (.ref 13), some (.ref 17), some (.int (nI j))] [] (encC (cR (cR S 14 (cpH (S.2 18) (S.2 14) j)) 15 (cpH (S.2 19) (S.2 15) j)) ++ T) 0 0 := by
    refine down ?_ (fun j hj ih => ?_)
    · rw [cp_n l18 (l18.trans l14.symm), cp_n l19 (l19.trans l15.symm)]
      exact run_sound okX4_becomeLike cNli 200 (brT (Int32.le_refl _) (k2 0 (Nat.zero_le _)))
    · have ha : (cpH (S.2 18) (S.2 14) j).length ≤ 1000 := by rw [cpH_len (by omega) (l18.trans l14.symm), l18]; decide
      have hb : (cpH (S.2 19) (S.2 15) j).length ≤ 1000 := by rw [cpH_len (by omega) (l19.trans l15.symm), l19]; decide
      refine run_sound okX4_becomeLike cNli 200 (brF (ge_no (n := 5) rfl hj (by decide)) (kH (c_at (xs := S.2 18) rfl (hL.lt 18)) (by decide) (kH (c_at (xs := S.2 19) rfl (hL.lt 19)) (by decide) (kH (c_become13 (len2 hL ha hb) _ _ _) (by decide) ?_))))
      rw [← cp_put (by omega) (l18.trans l14.symm) (by omega), ← cp_put (by omega) (l19.trans l15.symm) (by omega), ← nI_1 j] at ih
      exact ih
  exact k1 0 (Nat.zero_le _)
set_option maxRecDepth 100000 in
theorem P_image (hL : CLen S) (hT : TkL S) : Ctr l 3 X sgX7_image [.ref 0] (encC S ++ T) (kpQ T (cN (kepS S (S.2 14) (S.2 15) (S.2 16)) 8 1, S.1 134)) := by
  refine Ctr.of okX7_image rfl (Nat.le_of_ble_eq_true rfl) (run_sound okX7_image noCut 200 ⟨2, _, by decide, P_keep hL hT, ?_⟩)
  rintro hp' w ⟨rfl, rfl⟩
  exact And.intro (Or.inr rfl) ⟨rfl, rfl⟩
def kbkG (S : CS) : CS × Int32 := if S.1 8 = 0 then (S, -3) else (bakS S (S.2 18) (S.2 19) (S.2 20), S.1 174)
set_option maxRecDepth 100000 in
theorem P_back (hL : CLen S) (hT : TkL S) : Ctr l 3 X sgX7_back [.ref 0] (encC S ++ T) (kpQ T (kbkG S)) := by
  refine Ctr.of okX7_back rfl (Nat.le_of_ble_eq_true rfl) (run_sound okX7_back noCut 200 (br (fun y => kp (if_pos y)) (fun y => ⟨2, _, by decide, P_likeBack hL hT, ?_⟩)))
  rintro hp' w ⟨rfl, rfl⟩
  exact kp (if_neg y)
end KPREC2
