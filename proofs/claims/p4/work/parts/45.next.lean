/-! THE REFERENCE's words and tokens -/
section NEXT
variable {l : Launch} {X : List (List Int32)} {S : CS} {M : MS}
def lkR (ws tp : List Int32) (k f t : Nat) : Nat → Bool
  | 0 => true
  | m + 1 => if ws.getD (8 * k + (8 - (m + 1))) 0 = (if f + (8 - (m + 1)) < t then tp.getD (f + (8 - (m + 1))) 0 else 32) then lkR ws tp k f t m else false
def lkF (ws tp : List Int32) (f t k : Nat) : Bool := if 8 < t - f then false else lkR ws tp k f t 8
def wfF (ws tp : List Int32) (f t : Nat) : Nat → Nat → Nat
  | 0, _ => 12
  | m + 1, k => if lkF ws tp f t k = true then k else wfF ws tp f t m (k + 1)
theorem wfF_le (ws tp : List Int32) (f t : Nat) : ∀ m k, m + k = 12 → wfF ws tp f t m k ≤ 12
  | 0, _, _ => Nat.le_refl _
  | m + 1, k, h => by
    unfold wfF
    split
    · omega
    · exact wfF_le ws tp f t m (k + 1) (by omega)
def bB (b : Bool) : Int32 := if b = true then 1 else 0
theorem nI_sub {a b : Nat} (h : b ≤ a) : nI a - nI b = nI (a - b) := by
  have : nI a = nI (a - b) + nI b := by rw [nI_add, Nat.sub_add_cancel h]
  rw [this]
  exact Int32.add_sub_cancel _ _
set_option maxRecDepth 100000 in
set_option maxHeartbeats 4000000 in
theorem m_wordFrom (hM : MLen M) {f t : Nat} (hft : f ≤ t) (ht : t ≤ 160) : Ans l 0 X sgX8_wordFrom [.ref 27, .int (nI f), .int (nI t)] (mk S M) (nI (wfF (M.2.1 25) (M.2.1 5) f t 12 0)) := by
  obtain ⟨-, -, -, h5, -, -, -, -, -, -, -, -, h25, -⟩ := hM
  obtain ⟨W, hW⟩ : ∃ W, wfF (M.2.1 25) (M.2.1 5) f t 12 0 = W := ⟨_, rfl⟩
  rw [hW]
  refine Ctr.of okX8_wordFrom rfl (Nat.le_of_ble_eq_true rfl) (run_sound okX8_wordFrom (fun i => Nat.beq i 2 || Nat.beq i 16 || Nat.beq i 49) 300 ?_)
  have key : ∀ k, k ≤ 12 → ∀ x4 x5, W = wfF (M.2.1 25) (M.2.1 5) f t (12 - k) k → WP l (rmD 0 0 0) X sgX8_wordFrom kX8_wordFrom (mkR S M (nI W)) 2 [some (.ref 27), some (.int (nI f)), some (.int (nI t)), some (.int (nI k)), x4, x5] [] (mk S M) 0 0 := by
    refine down (fun x4 x5 h => ?_) (fun k hk ih x4 x5 h => ?_)
    · refine run_sound okX8_wordFrom (fun i => Nat.beq i 2 || Nat.beq i 16 || Nat.beq i 49) 300 (brT (Int32.le_refl _) ⟨rfl, some_int ?_⟩)
      rw [h]; rfl
    · rw [show 12 - k = (12 - (k + 1)) + 1 by omega, wfF] at h
      have fin : ∀ (c : Nat) (b : Bool), lkF (M.2.1 25) (M.2.1 5) f t k = b → WP l (rmD 0 0 0) X sgX8_wordFrom kX8_wordFrom (mkR S M (nI W)) 49 [some (.ref 27), some (.int (nI f)), some (.int (nI t)), some (.int (nI k)), some (.int (bB b)), some (.int (nI c))] [] (mk S M) 0 0 := by
        intro c b hb
        cases b with
        | false =>
          refine run_sound okX8_wordFrom (fun i => Nat.beq i 2 || Nat.beq i 16 || Nat.beq i 49) 300 (brT rfl ?_)
          have ih := ih (some (.int (bB false))) (some (.int (nI c))) (h.trans (if_neg (by rw [hb]; decide)))
          rw [← nI_1 k] at ih
          exact ih
        | true =>
          refine run_sound okX8_wordFrom (fun i => Nat.beq i 2 || Nat.beq i 16 || Nat.beq i 49) 300 (brF (by decide) ⟨rfl, some_int ?_⟩)
          rw [h.trans (if_pos hb)]
      have inner : ∀ c, c ≤ 8 → ∀ b : Bool, lkF (M.2.1 25) (M.2.1 5) f t k = (b && lkR (M.2.1 25) (M.2.1 5) k f t (8 - c)) → WP l (rmD 0 0 0) X sgX8_wordFrom kX8_wordFrom (mkR S M (nI W)) 16 [some (.ref 27), some (.int (nI f)), some (.int (nI t)), some (.int (nI k)), some (.int (bB b)), some (.int (nI c))] [] (mk S M) 0 0 := by
        refine down (fun b hb => ?_) (fun c hc ihc b hb => ?_)
        · exact run_sound okX8_wordFrom (fun i => Nat.beq i 2 || Nat.beq i 16 || Nat.beq i 49) 300 (brT (Int32.le_refl _) (fin 8 b (hb.trans (Bool.and_true b))))
        · cases b with
          | false => exact run_sound okX8_wordFrom (fun i => Nat.beq i 2 || Nat.beq i 16 || Nat.beq i 49) 300 (brF (ge_no (n := 8) rfl hc (by decide)) (brT rfl (fin c false hb)))
          | true =>
            rw [show 8 - c = (8 - (c + 1)) + 1 by omega, lkR, show 8 - (8 - (c + 1) + 1) = c by omega] at hb
            have i1 : (Int32.ofInt 8 * nI k + nI c).toNatClampNeg = 8 * k + c := by
              rw [show Int32.ofInt 8 * nI k = nI (8 * k) from nI_mul 8 k, nI_add, nI_clamp (by omega)]
            have v1 : vp_in (Int32.ofInt 8 * nI k + nI c) (M.2.1 25).length := by
              rw [show Int32.ofInt 8 * nI k = nI (8 * k) from nI_mul 8 k, nI_add, h25]; exact vp_nI (by omega) (by decide)
            have i2 : (nI f + nI c).toNatClampNeg = f + c := by rw [nI_add, nI_clamp (by omega)]
            have go : ∀ w : Int32, (w = if f + c < t then (M.2.1 5).getD (f + c) 0 else 32) → ((M.2.1 25).getD (Int32.ofInt 8 * nI k + nI c).toNatClampNeg 0 = w → WP l (rmD 0 0 0) X sgX8_wordFrom kX8_wordFrom (mkR S M (nI W)) 16 [some (.ref 27), some (.int (nI f)), some (.int (nI t)), some (.int (nI k)), some (.int (Int32.ofInt 1)), some (.int (nI c + 1))] [] (mk S M) 0 0) ∧ (¬ (M.2.1 25).getD (Int32.ofInt 8 * nI k + nI c).toNatClampNeg 0 = w → WP l (rmD 0 0 0) X sgX8_wordFrom kX8_wordFrom (mkR S M (nI W)) 16 [some (.ref 27), some (.int (nI f)), some (.int (nI t)), some (.int (nI k)), some (.int (Int32.ofInt 0)), some (.int (nI c + 1))] [] (mk S M) 0 0) := by
              intro w hw
              subst hw
              rw [i1]
              refine ⟨fun q => ?_, fun q => ?_⟩
              · rw [if_pos q] at hb
                have ihc := ihc true hb
                rw [← nI_1 c] at ihc
                exact ihc
              · rw [if_neg q] at hb
                have ihc := ihc false hb
                rw [← nI_1 c] at ihc
                exact ihc
            refine run_sound okX8_wordFrom (fun i => Nat.beq i 2 || Nat.beq i 16 || Nat.beq i 49) 300 (brF (ge_no (n := 8) rfl hc (by decide)) (brF (by decide) (Exists.intro _ (And.intro rfl (And.intro v1 (br (fun q => ?_) (fun q => ?_)))))))
            · have q2 : nI t ≤ nI f + nI c := q
              rw [nI_add] at q2
              have q3 : ¬ f + c < t := fun z => nI_ge z (by omega) q2
              exact go (Int32.ofInt 32) (if_neg q3).symm
            · have q2 : ¬ nI t ≤ nI f + nI c := q
              rw [nI_add] at q2
              have q3 : f + c < t := Nat.lt_of_not_le (fun z => q2 (nI_le z (by omega)))
              refine Exists.intro _ (And.intro rfl (And.intro (show vp_in (nI f + nI c) (M.2.1 5).length by rw [nI_add, h5]; exact vp_nI (by omega) (by decide)) ?_))
              exact go ((M.2.1 5).getD (nI f + nI c).toNatClampNeg 0) (by rw [i2, if_pos q3])
      refine run_sound okX8_wordFrom (fun i => Nat.beq i 2 || Nat.beq i 16 || Nat.beq i 49) 300 (brF (ge_no (n := 12) rfl hk (by decide)) (br (fun q => ?_) (fun q => ?_)))
      · have q2 : nI 8 < nI t - nI f := q
        rw [nI_sub hft] at q2
        have q3 : 8 < t - f := Nat.lt_of_not_le (fun z => absurd q2 (Int32.not_lt.mpr (nI_le z (by omega))))
        exact inner 0 (Nat.zero_le _) false (by rw [lkF, if_pos q3]; rfl)
      · have q2 : ¬ nI 8 < nI t - nI f := q
        rw [nI_sub hft] at q2
        have q3 : ¬ 8 < t - f := fun z => nI_ge z (by omega) (Int32.not_lt.mp q2)
        exact inner 0 (Nat.zero_le _) true (by rw [lkF, if_neg q3]; rfl)
  exact key 0 (Nat.zero_le _) none none hW.symm
end NEXT
