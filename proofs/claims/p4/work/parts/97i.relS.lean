/-! BOTH SIDES ALIKE: speakers alone, and their image (p9, p10, p11) -/
section RELS
variable {S : CS} {M : MS} {nt ns nk ta : Nat}
def RSp (S : CS) (M : MS) : Prop := (S.1 133 = M.1 0 ∧ S.2 14 = M.2.1 1 ∧ S.2 15 = M.2.1 2) ∧ S.1 8 = M.1 11 ∧ S.1 173 = M.1 12 ∧ M.2.1 15 = S.2 18 ++ S.2 19
theorem told_relS (h : MInv M nt ns nk) (r : RSp S M) (s what : Int32) : ktdG S s what = tdG M ns s what := by
  obtain ⟨⟨r0, r1, r2⟩, -⟩ := r
  have h0 := h.2.2.2.1
  unfold ktdG tdG
  rw [r0, h0.1, r1, r2]
  by_cases q : tP ns s
  · rw [if_pos ((xp_iff (by omega)).mpr q), if_pos q, atF_tP q, atF_tP q]
  · rw [if_neg (fun z => q ((xp_iff (by omega)).mp z)), if_neg q]
theorem speaker_relS (h : MInv M nt ns nk) (r : RSp S M) (k m : Int32) : RSp (kspG S k m).1 (spG M ns k m).1 ∧ (kspG S k m).2 = (spG M ns k m).2 := by
  have rr := r
  obtain ⟨⟨r0, r1, r2⟩, ri⟩ := r
  obtain ⟨h0, h5⟩ := h.2.2.2.1
  have e0 : S.1 133 = nI ns := r0.trans h0
  unfold kspG spG
  by_cases q : soP k m
  · rw [if_pos (so_iff.mpr q), if_pos q]
    by_cases e : ns = 5
    · rw [if_neg (by rw [e0, e]; decide), if_pos e]
      exact ⟨rr, rfl⟩
    · rw [if_pos (by rw [e0]; exact nI_lt (b := 5) (by omega) (by decide)), if_neg e]
      refine ⟨⟨⟨?_, ?_, ?_⟩, ri⟩, e0⟩
      · show S.1 133 + 1 = nI (ns + 1)
        rw [e0, nI_1]
      · show putF (S.2 14) (S.1 133) k = (M.2.1 1).set ns k
        rw [e0, putF_n (by omega), r1]
      · show putF (S.2 15) (S.1 133) m = (M.2.1 2).set ns m
        rw [e0, putF_n (by omega), r2]
  · rw [if_neg (fun z => q (so_iff.mp z)), if_neg q]
    exact ⟨rr, rfl⟩
theorem turn_relS (h : MInv M nt ns nk) (r : RSp S M) (s k m : Int32) : RSp (ktrG S s k m).1 (trG M ns s k m).1 ∧ (ktrG S s k m).2 = (trG M ns s k m).2 := by
  have rr := r
  obtain ⟨⟨r0, r1, r2⟩, ri⟩ := r
  obtain ⟨h0, h5⟩ := h.2.2.2.1
  unfold ktrG trG
  rw [r0.trans h0]
  by_cases q : tP ns s
  · rw [if_pos ((xp_iff (by omega)).mpr q), if_pos q]
    by_cases q2 : soP k m
    · rw [if_pos (so_iff.mpr q2), if_pos q2]
      refine ⟨⟨⟨r0, ?_, ?_⟩, ri⟩, ?_⟩
      · show putF (S.2 14) s k = (M.2.1 1).set s.toNatClampNeg k
        unfold putF
        rw [if_pos q.1, r1]
      · show putF (S.2 15) s m = (M.2.1 2).set s.toNatClampNeg m
        unfold putF
        rw [if_pos q.1, r2]
      · show atF (S.2 14) s = (M.2.1 1).getD s.toNatClampNeg 0
        rw [atF_tP q, r1]
    · rw [if_neg (fun z => q2 (so_iff.mp z)), if_neg q2]
      exact ⟨rr, rfl⟩
  · rw [if_neg (fun z => q ((xp_iff (by omega)).mp z)), if_neg q]
    exact ⟨rr, rfl⟩
theorem image_relS (r : RSp S M) : RSp (cN (kepS S (S.2 14) (S.2 15) (S.2 16)) 8 1) (imM M) := by
  obtain ⟨⟨r0, r1, r2⟩, ri⟩ := r
  refine ⟨⟨r0, r1, r2⟩, rfl, r0, ?_⟩
  show M.2.1 1 ++ M.2.1 2 = S.2 14 ++ S.2 15
  rw [r1, r2]
theorem back_relS (r : RSp S M) (hT : TkL S) : RSp (kbkG S).1 (bkG M).1 := by
  have rr := r
  obtain ⟨⟨r0, r1, r2⟩, i8, i0, ik⟩ := r
  unfold kbkG bkG
  rw [i8]
  by_cases q : M.1 11 = 0
  · rw [if_pos q, if_pos q]
    exact rr
  · rw [if_neg q, if_neg q]
    refine ⟨⟨i0, ?_, ?_⟩, i8, i0, ik⟩
    · show S.2 18 = (M.2.1 15).take 5
      rw [ik, ← hT.2.2.2.1, List.take_left]
    · show S.2 19 = (M.2.1 15).drop 5
      rw [ik, ← hT.2.2.2.1, List.drop_left]
end RELS
