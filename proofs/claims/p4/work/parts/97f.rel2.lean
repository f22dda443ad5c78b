/-! BOTH SIDES ALIKE: sayings, the law -/
section REL2
variable {S : CS} {M : MS} {nt ns nk ta : Nat}
theorem x2_iff {u : Int32} : kxP 2 u ↔ p1P u := and_congr_right (fun _ => ltle (by decide))
theorem x3_iff {u : Int32} : kxP 3 u ↔ p2P u := and_congr_right (fun _ => ltle (by decide))
theorem three_n (n : Nat) : Int32.ofInt 3 * nI n = nI (3 * n) := nI_mul 3 n
theorem say_rel (h : MInv M nt ns nk) (r : RTk S M) (ri : RIm S M) (e9 : S.1 93 = M.1 9) (s t u : Int32) : RTk (ksyG S s t u).1 (syG M nt ns nk s t u).1 ∧ RIm (ksyG S s t u).1 (syG M nt ns nk s t u).1 ∧ (ksyG S s t u).2 = (syG M nt ns nk s t u).2 := by
  have rr := r
  obtain ⟨r0, r3, r10, r1, r2, r4⟩ := r
  obtain ⟨h0, h5⟩ := h.2.2.2.1
  obtain ⟨h9, h91, h96⟩ := h.2.2.1
  obtain ⟨h3, h12⟩ := h.2.2.2.2.1
  have e0 := r0.trans h0
  have e9 := e9.trans h9
  have e3 := r3.trans h3
  unfold ksyG syG
  by_cases q : tP ns s ∧ tP nt t
  · rw [if_pos (show kxP (S.1 133) s ∧ kxP (S.1 93) t by rw [e0, e9]; exact ⟨(xp_iff (by omega)).mpr q.1, (xp_iff (by omega)).mpr q.2⟩), if_pos q]
    by_cases q2 : p1P u
    · rw [if_pos (x2_iff.mpr q2), if_pos q2]
      by_cases e : nk = 12
      · rw [if_neg (by rw [e3, e]; decide), if_pos e]
        exact ⟨rr, ri, rfl⟩
      · rw [if_pos (by rw [e3]; exact nI_lt (b := 12) (by omega) (by decide)), if_neg e]
        refine ⟨⟨r0, ?_, r10, r1, r2, ?_⟩, ri, ?_⟩
        · show S.1 134 + Int32.ofInt 1 = nI (nk + 1)
          rw [e3]
          exact nI_1 nk
        · show putF (putF (putF (S.2 16) (Int32.ofInt 3 * S.1 134) s) (Int32.ofInt 3 * S.1 134 + Int32.ofInt 1) t) (Int32.ofInt 3 * S.1 134 + Int32.ofInt 2) u = (((M.2.1 4).set (3 * nk) s).set (3 * nk + 1) t).set (3 * nk + 2) u
          rw [e3, three_n, show nI (3 * nk) + Int32.ofInt 1 = nI (3 * nk + 1) from nI_add _ 1, show nI (3 * nk) + Int32.ofInt 2 = nI (3 * nk + 2) from nI_add _ 2, putF_n (by omega), putF_n (by omega), putF_n (by omega), r4]
        · show S.1 134 + 1 - 1 = nI nk
          rw [e3]
          exact Int32.add_sub_cancel _ _
    · rw [if_neg (fun z => q2 (x2_iff.mp z)), if_neg q2]
      exact ⟨rr, ri, rfl⟩
  · rw [if_neg (show ¬ (kxP (S.1 133) s ∧ kxP (S.1 93) t) by rw [e0, e9]; exact fun z => q ⟨(xp_iff (by omega)).mp z.1, (xp_iff (by omega)).mp z.2⟩), if_neg q]
    exact ⟨rr, ri, rfl⟩
theorem unsay_rel (h : MInv M nt ns nk) (r : RTk S M) (ri : RIm S M) : RTk (kunG S).1 (if M.1 3 = Int32.ofInt 0 then M else mN M 3 (M.1 3 - Int32.ofInt 1)) ∧ RIm (kunG S).1 (if M.1 3 = Int32.ofInt 0 then M else mN M 3 (M.1 3 - Int32.ofInt 1)) ∧ (kunG S).2 = (if M.1 3 = Int32.ofInt 0 then Int32.ofInt (-3) else M.1 3 - Int32.ofInt 1) := by
  have rr := r
  obtain ⟨r0, r3, r10, r1, r2, r4⟩ := r
  obtain ⟨h3, h12⟩ := h.2.2.2.2.1
  unfold kunG
  rw [r3]
  by_cases q : M.1 3 = Int32.ofInt 0
  · rw [if_neg (by rw [q]; decide), if_pos q, if_pos q]
    exact ⟨rr, ri, rfl⟩
  · have hk : 1 ≤ nk := Nat.pos_of_ne_zero (fun z => q (by rw [h3, z]; rfl))
    rw [if_pos (by rw [h3]; exact nI_lt (a := 0) (by omega) (by omega)), if_neg q, if_neg q]
    exact ⟨⟨r0, rfl, r10, r1, r2, r4⟩, ri, rfl⟩
theorem force_rel (r : RTk S M) (ri : RIm S M) (h : MInv M nt ns nk) (e9 : S.1 93 = M.1 9) (v : Int32) : RTk (kfoG S v).1 (if frP M v then mN M 10 v else M) ∧ RIm (kfoG S v).1 (if frP M v then mN M 10 v else M) ∧ (kfoG S v).2 = (if frP M v then M.1 10 else Int32.ofInt (-2)) := by
  have rr := r
  obtain ⟨r0, r3, r10, r1, r2, r4⟩ := r
  obtain ⟨h9, h91, h96⟩ := h.2.2.1
  have e : kxP (S.1 93) v ↔ frP M v := by
    rw [e9]
    show kxP (M.1 9) v ↔ inP v (Int32.ofInt 0) (M.1 9 - Int32.ofInt 1)
    rw [h9]
    exact xp_iff (by omega)
  unfold kfoG
  by_cases q : frP M v
  · rw [if_pos (e.mpr q), if_pos q, if_pos q]
    exact ⟨⟨r0, r3, rfl, r1, r2, r4⟩, ri, r10⟩
  · rw [if_neg (fun z => q (e.mp z)), if_neg q, if_neg q]
    exact ⟨rr, ri, rfl⟩
end REL2
