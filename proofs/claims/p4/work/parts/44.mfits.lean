section MFITS
variable {l : Launch} {X : List (List Int32)} {S : CS} {M : MS}
set_option maxRecDepth 100000 in
theorem m_once {t : Nat} (h60 : M.2.2.1.length = 60) (ht : t < 6) : AnsL l 0 X sgX8_once [.ref 27, .int (nI t)] (mk S M) (M.2.2.1.getD (10 * t) 0) := by
  refine Ctr.of okX8_once rfl (Nat.le_of_ble_eq_true rfl) (run_sound okX8_once noCut 100 ?_)
  have e1 : Int32.ofInt 10 * nI t = nI (10 * t) := nI_mul 10 t
  refine Exists.intro _ (And.intro rfl (And.intro ?_ ⟨rfl, rfl, some_long ?_⟩))
  · show vp_in (Int32.ofInt 10 * nI t) M.2.2.1.length
    rw [e1, h60]; exact vp_nI (by omega) (by decide)
  · show M.2.2.1.getD (Int32.ofInt 10 * nI t).toNatClampNeg 0 = _
    rw [e1, nI_clamp (by omega)]
/-- worlds in which one of a kind can say a pair, as long numbers -/
def canL (k much n : Int32) (p q : Int64) : Int64 :=
  let one := p ^^^ q
  if k = 1 ∨ k = 3 then one &&& (if k = 3 ∧ n - n / (much + 2) * (much + 2) = 0 then q else p)
  else if k = 2 ∨ k = 5 then (one &&& q) ||| (if k = 5 ∧ ¬ n < much then 4294967295 &&& (p ^^^ -1) &&& (q ^^^ -1) else 0)
  else if k = 4 then 4294967295 &&& (one ^^^ -1) else one
set_option maxRecDepth 100000 in
set_option maxHeartbeats 4000000 in
theorem m_canSay (h60 : M.2.2.1.length = 60) (k much n : Int32) {who t tu : Nat} (hw : who < 5) (ht : t < 6) (htu : tu < 2) (hm : ¬ much + 2 = 0) :
    AnsL l 0 X sgX8_canSay [.ref 27, .int k, .int much, .int (nI who), .int (nI t), .int (nI tu), .int n] (mk S M) (canL k much n (M.2.2.1.getD (10 * t + 2 * who + tu) 0) (M.2.2.1.getD (10 * t + 2 * who + 1 - tu) 0)) := by
  have e1 : Int32.ofInt 10 * nI t + Int32.ofInt 2 * nI who + nI tu = nI (10 * t + 2 * who + tu) := by
    rw [show Int32.ofInt 10 * nI t = nI (10 * t) from nI_mul 10 t, show Int32.ofInt 2 * nI who = nI (2 * who) from nI_mul 2 who, nI_add, nI_add]
  have e2 : Int32.ofInt 10 * nI t + Int32.ofInt 2 * nI who + Int32.ofInt 1 - nI tu = nI (10 * t + 2 * who + 1 - tu) := by
    rw [show Int32.ofInt 10 * nI t = nI (10 * t) from nI_mul 10 t, show Int32.ofInt 2 * nI who = nI (2 * who) from nI_mul 2 who, nI_add, show nI (10 * t + 2 * who) + Int32.ofInt 1 = nI (10 * t + 2 * who + 1) from nI_1 _]
    rcases (show tu = 0 ∨ tu = 1 by omega) with rfl | rfl
    · simp [nI]
    · exact nI_pred _
  have hi1 : vp_in (Int32.ofInt 10 * nI t + Int32.ofInt 2 * nI who + nI tu) M.2.2.1.length := by rw [e1, h60]; exact vp_nI (by omega) (by decide)
  have hi2 : vp_in (Int32.ofInt 10 * nI t + Int32.ofInt 2 * nI who + Int32.ofInt 1 - nI tu) M.2.2.1.length := by rw [e2, h60]; exact vp_nI (by omega) (by decide)
  have v1 : M.2.2.1.getD (Int32.ofInt 10 * nI t + Int32.ofInt 2 * nI who + nI tu).toNatClampNeg 0 = M.2.2.1.getD (10 * t + 2 * who + tu) 0 := by rw [e1, nI_clamp (by omega)]
  have v2 : M.2.2.1.getD (Int32.ofInt 10 * nI t + Int32.ofInt 2 * nI who + Int32.ofInt 1 - nI tu).toNatClampNeg 0 = M.2.2.1.getD (10 * t + 2 * who + 1 - tu) 0 := by rw [e2, nI_clamp (by omega)]
  rw [← v1, ← v2]
  generalize hp : M.2.2.1.getD (Int32.ofInt 10 * nI t + Int32.ofInt 2 * nI who + nI tu).toNatClampNeg 0 = p
  generalize hq : M.2.2.1.getD (Int32.ofInt 10 * nI t + Int32.ofInt 2 * nI who + Int32.ofInt 1 - nI tu).toNatClampNeg 0 = q
  refine Ctr.of okX8_canSay rfl (Nat.le_of_ble_eq_true rfl) (run_sound okX8_canSay (fun i => Nat.beq i 45) 300 ?_)
  refine Exists.intro _ (And.intro rfl (And.intro hi1 (Exists.intro _ (And.intro rfl (And.intro hi2 ?_)))))
  have tail : ∀ pl : Int32, (pl = bI (k = 3 ∧ n - n / (much + 2) * (much + 2) = 0)) → WP l (rmD 0 0 0) X sgX8_canSay kX8_canSay (fun h w => h = mk S M ∧ w = some (.long (canL k much n p q))) 45 [some (.ref 27), some (.int k), some (.int much), some (.int (nI who)), some (.int (nI t)), some (.int (nI tu)), some (.int n), some (.long p), none, some (.long q), none, some (.long (p ^^^ q)), none, some (.int pl)] [] (mk S M) 0 0 := by
    intro pl hpl
    refine run_sound okX8_canSay (fun i => Nat.beq i 45) 300 ?_
    have c13 : ∀ (hk : k = 1 ∨ k = 3), canL k much n p q = (p ^^^ q) &&& (if k = 3 ∧ n - n / (much + 2) * (much + 2) = 0 then q else p) := fun hk => if_pos hk
    have part : (k = 1 ∨ k = 3) → (pl = 0 → (p ^^^ q) &&& p = canL k much n p q) ∧ (¬ pl = 0 → (p ^^^ q) &&& q = canL k much n p q) := by
      intro hk
      rw [c13 hk, hpl]
      exact ⟨fun z => by rw [if_neg (bI_0.mp z)], fun z => by rw [if_pos (bI_n0.mp z)]⟩
    refine br (fun h1 => br (fun h2 => ⟨rfl, rfl, some_long ((part (Or.inl h1)).1 h2)⟩) (fun h2 => ⟨rfl, rfl, some_long ((part (Or.inl h1)).2 h2)⟩)) (fun h1 => ?_)
    refine br (fun h3 => br (fun h2 => ⟨rfl, rfl, some_long ((part (Or.inr h3)).1 h2)⟩) (fun h2 => ⟨rfl, rfl, some_long ((part (Or.inr h3)).2 h2)⟩)) (fun h3 => ?_)
    have n13 : ¬ (k = 1 ∨ k = 3) := fun z => z.elim h1 h3
    have c25 : ∀ (hk : k = 2 ∨ k = 5), canL k much n p q = ((p ^^^ q) &&& q) ||| (if k = 5 ∧ ¬ n < much then 4294967295 &&& (p ^^^ -1) &&& (q ^^^ -1) else 0) := fun hk => (if_neg n13).trans (if_pos hk)
    refine br (fun h2 => ?_) (fun h2 => ?_)
    · have nk5 : ¬ k = 5 := fun z => by rw [z] at h2; revert h2; decide
      refine brF nk5 ⟨rfl, rfl, some_long ?_⟩
      rw [c25 (Or.inl h2), if_neg (fun z => nk5 z.1)]
      rfl
    · refine br (fun h5 => ?_) (fun h5 => ?_)
      · refine brT h5 (br (fun h6 => ⟨rfl, rfl, some_long ?_⟩) (fun h6 => ⟨rfl, rfl, some_long ?_⟩))
        · rw [c25 (Or.inr h5), if_neg (fun z => z.2 h6)]
          rfl
        · rw [c25 (Or.inr h5), if_pos ⟨h5, h6⟩]
          rfl
      · have n25 : ¬ (k = 2 ∨ k = 5) := fun z => z.elim h2 h5
        refine br (fun h4 => ⟨rfl, rfl, some_long ?_⟩) (fun h4 => ⟨rfl, rfl, some_long ?_⟩)
        · exact ((if_neg n13).trans ((if_neg n25).trans (if_pos h4))).symm
        · exact ((if_neg n13).trans ((if_neg n25).trans (if_neg h4))).symm
  rw [hp, hq]
  refine br (fun h3 => And.intro hm (br (fun h4 => ?_) (fun h4 => ?_))) (fun h3 => ?_)
  · exact tail 1 (bI_t ⟨h3, h4⟩).symm
  · exact tail 0 (bI_f (fun z => h4 z.2)).symm
  · exact tail 0 (bI_f (fun z => h3 z.1)).symm
end MFITS
