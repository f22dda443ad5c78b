/-! BOTH SIDES ALIKE: the talk and its image -/
section REL
variable {S : CS} {M : MS} {nt ns nk ta : Nat}
def RTk (S : CS) (M : MS) : Prop := S.1 133 = M.1 0 ∧ S.1 134 = M.1 3 ∧ S.1 135 = M.1 10 ∧ S.2 14 = M.2.1 1 ∧ S.2 15 = M.2.1 2 ∧ S.2 16 = M.2.1 4
def RIm (S : CS) (M : MS) : Prop := S.1 8 = M.1 11 ∧ S.1 173 = M.1 12 ∧ S.1 174 = M.1 13 ∧ S.1 175 = M.1 14 ∧ M.2.1 15 = S.2 18 ++ S.2 19 ∧ S.2 20 = M.2.1 16
theorem xp_iff {n : Nat} (hn : n < 2 ^ 31) {s : Int32} : kxP (nI n) s ↔ tP n s := by
  refine and_congr_right (fun h0 => ?_)
  cases n with
  | zero =>
    constructor
    · intro h
      exact absurd h (Int32.not_lt.mpr h0)
    · intro h
      have g0 := Int32.le_iff_toInt_le.mp h0
      have g1 := Int32.le_iff_toInt_le.mp h
      have e0 : (0 : Int32).toInt = 0 := by decide
      have e1 : (nI 0 - 1).toInt = -1 := by decide
      omega
  | succ n =>
    rw [nI_pred, Int32.lt_iff_toInt_lt, Int32.le_iff_toInt_le, nI_toInt hn, nI_toInt (by omega)]
    omega
theorem so_iff {k m : Int32} : ksoP k m ↔ soP k m := and_congr_left (fun _ => and_congr_right (fun _ => ltle (by decide)))
theorem atF_tP {n : Nat} {s : Int32} (h : tP n s) (xs : List Int32) : atF xs s = xs.getD s.toNatClampNeg 0 := if_pos h.1
theorem told_rel (h : MInv M nt ns nk) (r : RTk S M) (s what : Int32) : ktdG S s what = tdG M ns s what := by
  obtain ⟨r0, r3, r10, r1, r2, r4⟩ := r
  have h0 := h.2.2.2.1
  unfold ktdG tdG
  rw [r0, h0.1, r1, r2]
  by_cases q : tP ns s
  · rw [if_pos ((xp_iff (by omega)).mpr q), if_pos q, atF_tP q, atF_tP q]
  · rw [if_neg (fun z => q ((xp_iff (by omega)).mp z)), if_neg q]
theorem speaker_rel (h : MInv M nt ns nk) (r : RTk S M) (ri : RIm S M) (k m : Int32) : RTk (kspG S k m).1 (spG M ns k m).1 ∧ RIm (kspG S k m).1 (spG M ns k m).1 ∧ (kspG S k m).2 = (spG M ns k m).2 := by
  have rr := r
  obtain ⟨r0, r3, r10, r1, r2, r4⟩ := r
  obtain ⟨h0, h5⟩ := h.2.2.2.1
  have e0 : S.1 133 = nI ns := r0.trans h0
  unfold kspG spG
  by_cases q : soP k m
  · rw [if_pos (so_iff.mpr q), if_pos q]
    by_cases e : ns = 5
    · rw [if_neg (by rw [e0, e]; decide), if_pos e]
      exact ⟨rr, ri, rfl⟩
    · rw [if_pos (by rw [e0]; exact nI_lt (b := 5) (by omega) (by decide)), if_neg e]
      refine ⟨⟨?_, r3, r10, ?_, ?_, r4⟩, ri, e0⟩
      · show S.1 133 + 1 = nI (ns + 1)
        rw [e0, nI_1]
      · show putF (S.2 14) (S.1 133) k = (M.2.1 1).set ns k
        rw [e0, putF_n (by omega), r1]
      · show putF (S.2 15) (S.1 133) m = (M.2.1 2).set ns m
        rw [e0, putF_n (by omega), r2]
  · rw [if_neg (fun z => q (so_iff.mp z)), if_neg q]
    exact ⟨rr, ri, rfl⟩
theorem turn_rel (h : MInv M nt ns nk) (r : RTk S M) (ri : RIm S M) (s k m : Int32) : RTk (ktrG S s k m).1 (trG M ns s k m).1 ∧ RIm (ktrG S s k m).1 (trG M ns s k m).1 ∧ (ktrG S s k m).2 = (trG M ns s k m).2 := by
  have rr := r
  obtain ⟨r0, r3, r10, r1, r2, r4⟩ := r
  obtain ⟨h0, h5⟩ := h.2.2.2.1
  unfold ktrG trG
  rw [r0.trans h0]
  by_cases q : tP ns s
  · rw [if_pos ((xp_iff (by omega)).mpr q), if_pos q]
    by_cases q2 : soP k m
    · rw [if_pos (so_iff.mpr q2), if_pos q2]
      refine ⟨⟨r0, r3, r10, ?_, ?_, r4⟩, ri, ?_⟩
      · show putF (S.2 14) s k = (M.2.1 1).set s.toNatClampNeg k
        unfold putF
        rw [if_pos q.1, r1]
      · show putF (S.2 15) s m = (M.2.1 2).set s.toNatClampNeg m
        unfold putF
        rw [if_pos q.1, r2]
      · show atF (S.2 14) s = (M.2.1 1).getD s.toNatClampNeg 0
        rw [atF_tP q, r1]
    · rw [if_neg (fun z => q2 (so_iff.mp z)), if_neg q2]
      exact ⟨rr, ri, rfl⟩
  · rw [if_neg (fun z => q ((xp_iff (by omega)).mp z)), if_neg q]
    exact ⟨rr, ri, rfl⟩
theorem image_rel (r : RTk S M) : RTk (cN (kepS S (S.2 14) (S.2 15) (S.2 16)) 8 1) (imM M) ∧ RIm (cN (kepS S (S.2 14) (S.2 15) (S.2 16)) 8 1) (imM M) ∧ S.1 134 = M.1 3 := by
  obtain ⟨r0, r3, r10, r1, r2, r4⟩ := r
  refine ⟨⟨r0, r3, r10, r1, r2, r4⟩, ⟨rfl, r0, r3, r10, ?_, r4⟩, r3⟩
  show M.2.1 1 ++ M.2.1 2 = S.2 14 ++ S.2 15
  rw [r1, r2]
theorem back_rel (r : RTk S M) (ri : RIm S M) (hT : TkL S) : RTk (kbkG S).1 (bkG M).1 ∧ RIm (kbkG S).1 (bkG M).1 ∧ (kbkG S).2 = (bkG M).2 := by
  have rr := ri
  obtain ⟨i8, i0, i3, i10, ik, i4⟩ := ri
  unfold kbkG bkG
  rw [i8]
  by_cases q : M.1 11 = 0
  · rw [if_pos q, if_pos q]
    exact ⟨r, rr, rfl⟩
  · rw [if_neg q, if_neg q]
    refine ⟨⟨i0, i3, i10, ?_, ?_, i4⟩, ⟨i8, i0, i3, i10, ik, i4⟩, i3⟩
    · show S.2 18 = (M.2.1 15).take 5
      rw [ik, ← hT.2.2.2.1, List.take_left]
    · show S.2 19 = (M.2.1 15).drop 5
      rw [ik, ← hT.2.2.2.1, List.drop_left]
end REL
