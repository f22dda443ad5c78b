/-! BOTH SIDES ALIKE: what was said; sheets' cells -/
section REL3
variable {S : CS} {M : MS} {nt ns nk ta : Nat}
theorem said_rel (h : MInv M nt ns nk) (r : RTk S M) (k what : Int32) : ksdG S k what = sdG M nk k what := by
  obtain ⟨r0, r3, r10, r1, r2, r4⟩ := r
  obtain ⟨h3, h12⟩ := h.2.2.2.2.1
  unfold ksdG sdG
  rw [r3.trans h3]
  by_cases q : tP nk k
  · rw [if_pos ((xp_iff (by omega)).mpr q), if_pos q]
    by_cases q2 : p2P what
    · rw [if_pos (x3_iff.mpr q2), if_pos q2]
      obtain ⟨a, ha, rfl⟩ := inN (by omega) q
      rcases in02 q2 with rfl | rfl | rfl
      · show atF (S.2 16) (Int32.ofInt 3 * nI a + 0) = _
        rw [r4, three_n, show nI (3 * a) + 0 = nI (3 * a + 0) from nI_add _ 0, atF_n (by omega), nI_clamp (by omega)]
        rfl
      · show atF (S.2 16) (Int32.ofInt 3 * nI a + 1) = _
        rw [r4, three_n, show nI (3 * a) + 1 = nI (3 * a + 1) from nI_add _ 1, atF_n (by omega), nI_clamp (by omega)]
        rfl
      · show atF (S.2 16) (Int32.ofInt 3 * nI a + 2) = _
        rw [r4, three_n, show nI (3 * a) + 2 = nI (3 * a + 2) from nI_add _ 2, atF_n (by omega), nI_clamp (by omega)]
        rfl
    · rw [if_neg (fun z => q2 (x3_iff.mp z)), if_neg q2]
  · rw [if_neg (fun z => q ((xp_iff (by omega)).mp z)), if_neg q]
/-- the sheets -/
def RSh (S : CS) (M : MS) : Prop := S.2 22 = M.2.1 17 ∧ S.2 23 = M.2.1 18 ∧ S.2 24 = M.2.1 19
theorem x4_iff {u : Int32} : kxP 4 u ↔ p3P u := and_congr_right (fun _ => ltle (by decide))
theorem cell_rel (hs : ShOk M) (r : RSh S M) (s i v : Int32) : RSh (kceG S s i v).1 (ceG M s i v).1 ∧ (kceG S s i v).2 = (ceG M s i v).2 := by
  have rr := r
  obtain ⟨r1, r2, r3⟩ := r
  unfold kceG ceG
  by_cases q : p3P s
  · rw [if_pos (x4_iff.mpr q), if_pos q]
    obtain ⟨a, ha, rfl⟩ := in03n q
    obtain ⟨hm, z, hz, ez⟩ := hs a ha
    rw [r1, r2, atF_n (by omega), atF_n (by omega), nI_clamp (by omega), ez]
    by_cases q2 : (M.2.1 17).getD a 0 = -1
    · rw [if_pos q2, if_pos q2]
      exact ⟨rr, rfl⟩
    · rw [if_neg q2, if_neg q2]
      by_cases q3 : tP z i
      · rw [if_pos ((xp_iff (by omega)).mpr q3), if_pos (show (0 : Int32) ≤ i ∧ i ≤ nI z - 1 from q3)]
        obtain ⟨b, hb, rfl⟩ := inN (by omega) q3
        refine ⟨⟨r1, r2, ?_⟩, rfl⟩
        show putF (S.2 24) (nI a * Int32.ofInt 40 + nI b) (wrV S (nI a) v) = (M.2.1 19).set (40 * a + (nI b).toNatClampNeg) (ceV ((M.2.1 17).getD a 0) v)
        have e : nI a * Int32.ofInt 40 + nI b = nI (40 * a + b) := by rw [show nI a * Int32.ofInt 40 = nI (a * 40) from nI_mul a 40, nI_add, Nat.mul_comm]
        rw [e, putF_n (by omega), nI_clamp (by omega), r3]
        unfold wrV ceV
        rw [r1, atF_n (by omega)]
      · rw [if_neg (fun y => q3 ((xp_iff (by omega)).mp y)), if_neg (show ¬ ((0 : Int32) ≤ i ∧ i ≤ nI z - 1) from q3)]
        exact ⟨rr, rfl⟩
  · rw [if_neg (fun z => q (x4_iff.mp z)), if_neg q]
    exact ⟨rr, rfl⟩
end REL3
