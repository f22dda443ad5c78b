section MWORC
variable {l : Launch} {X : List (List Int32)} {S : CS} {M : MS} {hp : AH} {nt ns nk : Nat}
/-- the fewest bits of those that can be, the least as a number -/
def beB (P : Int32 → Bool) : Nat → Int32
  | 0 => -1
  | n + 1 => if (beB P n = -1 ∨ cntF (nI n).toInt64 32 < cntF (beB P n).toInt64 32) ∧ P (nI n) = true then nI n else beB P n
def beO (P : Int32 → Bool) (n : Nat) (what : Int32) : Int32 := if what = 1 ∨ beB P n = -1 then beB P n else cntF (beB P n).toInt64 32
def leG (M : MS) (nk : Nat) (what : Int32) : Int32 := if p1P what then beO (fun left => decide (¬ wiT M left nk = 0)) (2 ^ nk) what else -2
theorem shl_nk {n : Nat} (h : n ≤ 12) : (1 : Int32) <<< (nI n &&& 31) = nI (2 ^ n) := by
  have a : ∀ n : Fin 13, (1 : Int32) <<< (nI n.val &&& 31) = nI (2 ^ n.val) := by decide +kernel
  exact a ⟨n, by omega⟩
theorem pw_nk {n : Nat} (h : n ≤ 12) : 2 ^ n < 2 ^ 31 := Nat.pow_lt_pow_right (by decide) (by omega)
def cNle (i : Nat) : Bool := Nat.beq i 13 || Nat.beq i 32
set_option maxRecDepth 100000 in
set_option maxHeartbeats 1000000 in
theorem g_least (h : MInv M nt ns nk) (what : Int32) : Ctr l 6 X sgX8_least [.ref 27, .int what] (mk S M) (zA S M (.int (leG M nk what))) := by
  obtain ⟨h3, h12⟩ := h.2.2.2.2.1
  refine Ctr.of okX8_least rfl (Nat.le_of_ble_eq_true rfl) (run_sound okX8_least cNle 200 ?_)
  refine kH (m_in _ _ _) (by decide) (brB' (fun q => zI h.1 (if_neg q).symm) (fun q => ⟨5, _, by decide, g_findsFitting h, ?_⟩))
  rw [show leG M nk what = beO (fun left => decide (¬ wiT M left nk = 0)) (2 ^ nk) what from if_pos q]
  rintro hp' w ⟨⟨z, hz, hzm, hzf, rfl⟩, rfl⟩
  have hw : ∀ left, AnsL l 1 X sgX8_without [.ref 27, .int left] (mk S (sc M z)) (wiT M left nk) := fun left => by
    rw [← wiT_sc z]
    exact g_without (h.sc hz) hzm hzf left
  obtain ⟨P, hP⟩ : ∃ P : Int32 → Bool, P = fun left => decide (¬ wiT M left nk = 0) := ⟨_, rfl⟩
  rw [← hP]
  have hPy : ∀ left, ¬ wiT M left nk = 0 → P left = true := fun left z => by rw [hP]; exact decide_eq_true z
  have hPn : ∀ left, wiT M left nk = 0 → ¬ P left = true := fun left z => by rw [hP]; exact fun y => of_decide_eq_true y z
  have hsh : (1 : Int32) <<< (M.1 3 &&& 31) = nI (2 ^ nk) := by rw [h3, shl_nk h12]
  have hpw := pw_nk h12
  generalize 2 ^ nk = N at hsh hpw ⊢
  have key : ∀ j, j ≤ N → ∀ x4, WP l (rmD 6 0 0) X sgX8_least kX8_least (zA S M (.int (beO P N what))) 13 [some (.ref 27), some (.int what), some (.int (beB P j)), some (.int (nI j)), x4] [] (mk S (sc M z)) 0 0 := by
    refine down (fun x4 => ?_) (fun j hj ih x4 => ?_)
    · refine run_sound okX8_least cNle 200 (brT ?_ (br (fun p => ⟨⟨z, hz, rfl⟩, some_int (if_pos (Or.inl p)).symm⟩) (fun p => br (fun p2 => ⟨⟨z, hz, rfl⟩, some_int (if_pos (Or.inr p2)).symm⟩) (fun p2 => kH (m_bitsOf _) (by decide) ⟨⟨z, hz, rfl⟩, some_int (if_neg (fun y => y.elim p p2)).symm⟩))))
      show (1 : Int32) <<< (M.1 3 &&& 31) ≤ nI N
      rw [hsh]; exact Int32.le_refl _
    · have t32 : ∀ v : Int32, (v = 1 ∧ (beB P j = -1 ∨ cntF (nI j).toInt64 32 < cntF (beB P j).toInt64 32)) ∨ (v = 0 ∧ ¬ (beB P j = -1 ∨ cntF (nI j).toInt64 32 < cntF (beB P j).toInt64 32)) → WP l (rmD 6 0 0) X sgX8_least kX8_least (zA S M (.int (beO P N what))) 32 [some (.ref 27), some (.int what), some (.int (beB P j)), some (.int (nI j)), x4] [.int v] (mk S (sc M z)) 0 0 := by
        intro v hv
        rcases hv with ⟨rfl, hf⟩ | ⟨rfl, hf⟩
        · refine run_sound okX8_least (fun i => Nat.beq i 13) 200 (brF (by decide) (kH (hw _) (by decide) (brC (fun p => ?_) (fun p => ?_))))
          · have ih := ih (some (.int 1))
            rw [show beB P (j + 1) = beB P j by rw [beB, if_neg (fun y => hPn _ p y.2)], ← nI_1 j] at ih
            exact ih
          · have ih := ih (some (.int 1))
            rw [show beB P (j + 1) = nI j by rw [beB, if_pos ⟨hf, hPy _ p⟩], ← nI_1 j] at ih
            exact ih
        · have ih := ih (some (.int 0))
          rw [show beB P (j + 1) = beB P j by rw [beB, if_neg (fun y => hf y.1)], ← nI_1 j] at ih
          exact run_sound okX8_least (fun i => Nat.beq i 13) 200 (brT rfl ih)
      refine run_sound okX8_least cNle 200 (brF ?_ (br (fun p => t32 1 (Or.inl ⟨rfl, Or.inl p⟩)) (fun p => kH (m_bitsOf _) (by decide) (kH (m_bitsOf _) (by decide) (br (fun p2 => t32 0 (Or.inr ⟨rfl, fun y => y.elim p (fun y => absurd y (Int32.not_lt.mpr p2))⟩)) (fun p2 => t32 1 (Or.inl ⟨rfl, Or.inr (Int32.not_le.mp p2)⟩)))))))
      show ¬ (1 : Int32) <<< (M.1 3 &&& 31) ≤ nI j
      rw [hsh]; exact nI_ge hj hpw
  exact key 0 (Nat.zero_le _) none
end MWORC
