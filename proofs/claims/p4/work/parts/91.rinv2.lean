/-! THE REFERENCE in general: what is kept by each call that changes it -/
section RINV2
variable {l : Launch} {X : List (List Int32)} {S : CS} {M : MS} {hp : AH} {nt ns nk ta : Nat} {xs : List Int32}
theorem MLen.r1 (h : MLen M) (e : xs.length = 5) : MLen (mR M 1 xs) := by
  obtain ⟨a1, a2, a3, a4, a5, a6, a7, a8, a9, a10, a11, a12, a13, a14, a15, a16, a17, a18⟩ := h
  exact ⟨e, a2, a3, a4, a5, a6, a7, a8, a9, a10, a11, a12, a13, a14, a15, a16, a17, a18⟩
theorem MLen.r2 (h : MLen M) (e : xs.length = 5) : MLen (mR M 2 xs) := by
  obtain ⟨a1, a2, a3, a4, a5, a6, a7, a8, a9, a10, a11, a12, a13, a14, a15, a16, a17, a18⟩ := h
  exact ⟨a1, e, a3, a4, a5, a6, a7, a8, a9, a10, a11, a12, a13, a14, a15, a16, a17, a18⟩
theorem MLen.r4 (h : MLen M) (e : xs.length = 36) : MLen (mR M 4 xs) := by
  obtain ⟨a1, a2, a3, a4, a5, a6, a7, a8, a9, a10, a11, a12, a13, a14, a15, a16, a17, a18⟩ := h
  exact ⟨a1, a2, e, a4, a5, a6, a7, a8, a9, a10, a11, a12, a13, a14, a15, a16, a17, a18⟩
theorem MLen.r5 (h : MLen M) (e : xs.length = 160) : MLen (mR M 5 xs) := by
  obtain ⟨a1, a2, a3, a4, a5, a6, a7, a8, a9, a10, a11, a12, a13, a14, a15, a16, a17, a18⟩ := h
  exact ⟨a1, a2, a3, e, a5, a6, a7, a8, a9, a10, a11, a12, a13, a14, a15, a16, a17, a18⟩
theorem MLen.r15 (h : MLen M) (e : xs.length = 10) : MLen (mR M 15 xs) := by
  obtain ⟨a1, a2, a3, a4, a5, a6, a7, a8, a9, a10, a11, a12, a13, a14, a15, a16, a17, a18⟩ := h
  exact ⟨a1, a2, a3, a4, a5, a6, e, a8, a9, a10, a11, a12, a13, a14, a15, a16, a17, a18⟩
theorem MLen.r16 (h : MLen M) (e : xs.length = 36) : MLen (mR M 16 xs) := by
  obtain ⟨a1, a2, a3, a4, a5, a6, a7, a8, a9, a10, a11, a12, a13, a14, a15, a16, a17, a18⟩ := h
  exact ⟨a1, a2, a3, a4, a5, a6, a7, e, a9, a10, a11, a12, a13, a14, a15, a16, a17, a18⟩
theorem MLen.r17 (h : MLen M) (e : xs.length = 4) : MLen (mR M 17 xs) := by
  obtain ⟨a1, a2, a3, a4, a5, a6, a7, a8, a9, a10, a11, a12, a13, a14, a15, a16, a17, a18⟩ := h
  exact ⟨a1, a2, a3, a4, a5, a6, a7, a8, e, a10, a11, a12, a13, a14, a15, a16, a17, a18⟩
theorem MLen.r18 (h : MLen M) (e : xs.length = 4) : MLen (mR M 18 xs) := by
  obtain ⟨a1, a2, a3, a4, a5, a6, a7, a8, a9, a10, a11, a12, a13, a14, a15, a16, a17, a18⟩ := h
  exact ⟨a1, a2, a3, a4, a5, a6, a7, a8, a9, e, a11, a12, a13, a14, a15, a16, a17, a18⟩
theorem MLen.r19 (h : MLen M) (e : xs.length = 160) : MLen (mR M 19 xs) := by
  obtain ⟨a1, a2, a3, a4, a5, a6, a7, a8, a9, a10, a11, a12, a13, a14, a15, a16, a17, a18⟩ := h
  exact ⟨a1, a2, a3, a4, a5, a6, a7, a8, a9, a10, e, a12, a13, a14, a15, a16, a17, a18⟩
theorem MLen.n (h : MLen M) (i : Nat) (v : Int32) : MLen (mN M i v) := h
theorem R_rs {d : Nat} {g : Sig} {a : List Value} {r : MS × Int32} (hr : RI r.1) (q : Ctr l d X g a (mk S M) (rsQ S r)) : Ctr l d X g a (mk S M) (rkQ S) := q.weak (by
  rintro hp w ⟨rfl, rfl⟩
  exact ⟨⟨r.1, hr, rfl⟩, _, rfl⟩)
theorem getD_kd {ys zs : List Int32} {j : Nat} {k m : Int32} (h : ∀ i, i < 5 → Kd (ys.getD i 0) (zs.getD i 0)) (l1 : ys.length = 5) (l2 : zs.length = 5) (hj : j < 5) (hk : Kd k m) : ∀ i, i < 5 → Kd ((ys.set j k).getD i 0) ((zs.set j m).getD i 0) := by
  intro i hi
  by_cases e : j = i
  · subst e
    rw [getD_set_eq (by omega), getD_set_eq (by omega)]
    exact hk
  · rw [getD_set_ne e, getD_set_ne e]
    exact h i hi
theorem spG_R (h : RInv M nt ns nk ta) (k m : Int32) : RI (spG M ns k m).1 := by
  have hh := h
  obtain ⟨⟨hM, hO, h9, ⟨h0, h5⟩, h3, hr, hk5, htk⟩, hrest⟩ := h
  unfold spG
  by_cases q : soP k m
  · rw [if_pos q]
    by_cases e : ns = 5
    · rw [if_pos e]
      exact ⟨nt, ns, nk, ta, hh⟩
    · rw [if_neg e]
      exact ⟨nt, ns + 1, nk, ta, ⟨(((hM.r1 (by rw [List.length_set]; exact hM.1)).r2 (by rw [List.length_set]; exact hM.2.1)).n 0 _ : MLen (spM M ns k m)), hO, h9, ⟨rfl, by omega⟩, h3, hr, getD_kd hk5 hM.1 hM.2.1 (by omega) q, htk⟩, hrest⟩
  · rw [if_neg q]
    exact ⟨nt, ns, nk, ta, hh⟩
theorem trG_R (h : RInv M nt ns nk ta) (s k m : Int32) : RI (trG M ns s k m).1 := by
  have hh := h
  obtain ⟨⟨hM, hO, h9, ⟨h0, h5⟩, h3, hr, hk5, htk⟩, hrest⟩ := h
  unfold trG
  by_cases q0 : tP ns s
  · rw [if_pos q0]
    obtain ⟨a, ha, rfl⟩ := inN (by omega) q0
    by_cases q : soP k m
    · rw [if_pos q, nI_clamp (by omega)]
      exact ⟨nt, ns, nk, ta, ⟨((hM.r1 (by rw [List.length_set]; exact hM.1)).r2 (by rw [List.length_set]; exact hM.2.1) : MLen (trM M a k m)), hO, h9, ⟨h0, h5⟩, h3, hr, getD_kd hk5 hM.1 hM.2.1 (by omega) q, htk⟩, hrest⟩
    · rw [if_neg q]
      exact ⟨nt, ns, nk, ta, hh⟩
  · rw [if_neg q0]
    exact ⟨nt, ns, nk, ta, hh⟩
theorem syG_R (h : RInv M nt ns nk ta) (s t u : Int32) : ∃ nk', RInv (syG M nt ns nk s t u).1 nt ns nk' ta ∧ nk' = (if 0 ≤ (syG M nt ns nk s t u).2 then nk + 1 else nk) := by
  obtain ⟨nk', h1, -, -, -, h2⟩ := syG_inv h.1 s t u
  refine ⟨nk', ⟨h1, ?_⟩, h2⟩
  have rest := h.2
  unfold syG
  split
  · split
    · split
      · exact rest
      · exact rest
    · exact rest
  · exact rest
theorem fdG_R (h : RInv M nt ns nk ta) (n a b c d e : Int32) : RI (fdG M ta n a b c d e).1 := by
  have hh := h
  obtain ⟨⟨hM, hO, h9, h0, h3, hr, hk5, htk⟩, ⟨hta, hta2⟩, hsh, him⟩ := h
  unfold fdG
  by_cases q : feQ n a b c d e
  · rw [if_pos q]
    by_cases q2 : 160 < ta + n.toNatClampNeg
    · rw [if_pos q2]
      exact ⟨nt, ns, nk, ta, hh⟩
    · rw [if_neg q2]
      exact ⟨nt, ns, nk, ta + n.toNatClampNeg, ⟨(hM.r5 (by rw [fdM_len]; exact hM.2.2.2.1)).n 6 _, hO, h9, h0, h3, hr, hk5, htk⟩, ⟨rfl, by omega⟩, hsh, him⟩
  · rw [if_neg q]
    exact ⟨nt, ns, nk, ta, hh⟩
theorem getD_app5 {ys zs : List Int32} (h : ys.length = 5) {i : Nat} (hi : i < 5) : (ys ++ zs).getD i 0 = ys.getD i 0 ∧ (ys ++ zs).getD (5 + i) 0 = zs.getD i 0 := by
  constructor
  · rw [List.getD_eq_getElem?_getD, List.getD_eq_getElem?_getD, List.getElem?_append_left (by omega)]
  · rw [List.getD_eq_getElem?_getD, List.getD_eq_getElem?_getD, List.getElem?_append_right (by omega), h, Nat.add_sub_cancel_left]
theorem getD_cut5 {ys : List Int32} {i : Nat} (hi : i < 5) : (ys.take 5).getD i 0 = ys.getD i 0 ∧ (ys.drop 5).getD i 0 = ys.getD (5 + i) 0 := by
  constructor
  · rw [List.getD_eq_getElem?_getD, List.getD_eq_getElem?_getD, List.getElem?_take_of_lt hi]
  · rw [List.getD_eq_getElem?_getD, List.getD_eq_getElem?_getD, List.getElem?_drop]
theorem imM_R (h : RInv M nt ns nk ta) : RI (imM M) := by
  obtain ⟨⟨hM, hO, h9, ⟨h0, h05⟩, ⟨h3, h312⟩, ⟨r, hr, er⟩, hk5, htk⟩, hta, hsh, him⟩ := h
  have hL : MLen (imM M) := (((((hM.n 11 1).n 12 (M.1 0)).n 13 (M.1 3)).n 14 (M.1 10)).r15 (xs := M.2.1 1 ++ M.2.1 2) (by rw [List.length_append, hM.1, hM.2.1])).r16 (xs := M.2.1 4) hM.2.2.1
  refine ⟨nt, ns, nk, ta, ⟨hL, hO, h9, ⟨h0, h05⟩, ⟨h3, h312⟩, ⟨r, hr, er⟩, hk5, htk⟩, hta, hsh, Or.inr ⟨ns, nk, r, h0, h05, h3, h312, er, hr, fun i hi => ?_, htk⟩⟩
  show Kd ((M.2.1 1 ++ M.2.1 2).getD i 0) ((M.2.1 1 ++ M.2.1 2).getD (5 + i) 0)
  rw [(getD_app5 hM.1 hi).1, (getD_app5 hM.1 hi).2]
  exact hk5 i hi
theorem bkG_R (h : RInv M nt ns nk ta) : RI (bkG M).1 := by
  have hh := h
  obtain ⟨⟨hM, hO, h9, h0, h3, hr, hk5, htk⟩, hta, hsh, him⟩ := h
  have l15 : (M.2.1 15).length = 10 := hM.2.2.2.2.2.2.1
  unfold bkG
  by_cases q : M.1 11 = 0
  · rw [if_pos q]
    exact ⟨nt, ns, nk, ta, hh⟩
  · rw [if_neg q]
    obtain ⟨ns', nk', r, e1, b1, e2, b2, e3, b3, hk', ht'⟩ := him.resolve_left q
    have hL : MLen (bkM M) := ((((((hM.r1 (xs := (M.2.1 15).take 5) (by rw [List.length_take, l15]; rfl)).r2 (xs := (M.2.1 15).drop 5) (by rw [List.length_drop, l15])).r4 (xs := M.2.1 16) hM.2.2.2.2.2.2.2.1).n 0 (M.1 12)).n 3 (M.1 13)).n 10 (M.1 14))
    refine ⟨nt, ns', nk', ta, ⟨hL, hO, h9, ⟨e1, b1⟩, ⟨e2, b2⟩, ⟨r, b3, e3⟩, fun i hi => ?_, ht'⟩, hta, hsh, him⟩
    show Kd (((M.2.1 15).take 5).getD i 0) (((M.2.1 15).drop 5).getD i 0)
    rw [(getD_cut5 hi).1, (getD_cut5 hi).2]
    exact hk' i hi
theorem ShOk.set {ys zs : List Int32} {s : Nat} {v : Int32} {z : Nat} (h : ShOk M) (hv : m2P v) (hz : z ≤ 40) (l17 : (M.2.1 17).length = 4) (l18 : (M.2.1 18).length = 4) (xs : List Int32) : ShOk (mR (mR (mR M 17 ((M.2.1 17).set s v)) 18 ((M.2.1 18).set s (nI z))) 19 xs) := by
  intro i hi
  show m2P (((M.2.1 17).set s v).getD i 0) ∧ ∃ z' : Nat, z' ≤ 40 ∧ ((M.2.1 18).set s (nI z)).getD i 0 = nI z'
  by_cases e : s = i
  · subst e
    rw [getD_set_eq (by omega), getD_set_eq (by omega)]
    exact ⟨hv, z, hz, rfl⟩
  · rw [getD_set_ne e, getD_set_ne e]
    exact h i hi
theorem sheets_R (h : RInv M nt ns nk ta) {s : Nat} {v : Int32} {z : Nat} (hv : m2P v) (hz : z ≤ 40) {xs : List Int32} (hx : xs.length = 160) : RI (mR (mR (mR M 17 ((M.2.1 17).set s v)) 18 ((M.2.1 18).set s (nI z))) 19 xs) := by
  obtain ⟨⟨hM, hO, h9, h0, h3, hr, hk5, htk⟩, hta, hsh, him⟩ := h
  have l17 : (M.2.1 17).length = 4 := hM.2.2.2.2.2.2.2.2.1
  have l18 : (M.2.1 18).length = 4 := hM.2.2.2.2.2.2.2.2.2.1
  exact ⟨nt, ns, nk, ta, ⟨((hM.r17 (by rw [List.length_set]; exact l17)).r18 (by rw [List.length_set]; exact l18)).r19 hx, hO, h9, h0, h3, hr, hk5, htk⟩, hta, hsh.set (ys := []) (zs := []) hv hz l17 l18 xs, him⟩
theorem shG_R (h : RInv M nt ns nk ta) (s sort n : Int32) : RI (shG M s sort n).1 := by
  have l19 : (M.2.1 19).length = 160 := h.1.1.2.2.2.2.2.2.2.2.2.2.1
  unfold shG
  by_cases q : p3P s ∧ m2P sort ∧ (sort = -1 ∨ n ≤ 40)
  · rw [if_pos q]
    by_cases q2 : ¬ sort = -1 ∧ n < 0
    · rw [if_pos q2]
      exact ⟨nt, ns, nk, ta, h⟩
    · rw [if_neg q2]
      obtain ⟨z, hz, e⟩ : ∃ z : Nat, z ≤ 40 ∧ (if sort = -1 then (0 : Int32) else n) = nI z := by
        by_cases q3 : sort = -1
        · exact ⟨0, by decide, if_pos q3⟩
        · have q4 : n ≤ 40 := q.2.2.resolve_left q3
          obtain ⟨k, hk, e⟩ := inC (c := 40) (n := 40) (by decide) (by decide) ⟨Int32.not_lt.mp (fun y => q2 ⟨q3, y⟩), q4⟩
          exact ⟨k, hk, (if_neg q3).trans e⟩
      show RI (shM M s.toNatClampNeg sort n)
      unfold shM
      rw [e]
      exact sheets_R h q.2.1 hz (by rw [zeC_len]; exact l19)
  · rw [if_neg q]
    exact ⟨nt, ns, nk, ta, h⟩
theorem fiG_R (h : RInv M nt ns nk ta) (s : Int32) : RI (fiG M nk s).1 := by
  have l19 : (M.2.1 19).length = 160 := h.1.1.2.2.2.2.2.2.2.2.2.2.1
  have h12 := h.1.2.2.2.2.1.2
  unfold fiG
  by_cases q : p3P s
  · rw [if_pos q]
    exact sheets_R h (v := 2) (z := 3 * nk) (by decide) (by omega) (by rw [zeC_len]; exact l19)
  · rw [if_neg q]
    exact ⟨nt, ns, nk, ta, h⟩
theorem row19_R (h : RInv M nt ns nk ta) {xs : List Int32} (hx : xs.length = 160) : RI (mR M 19 xs) := by
  obtain ⟨⟨hM, hO, h9, h0, h3, hr, hk5, htk⟩, hta, hsh, him⟩ := h
  exact ⟨nt, ns, nk, ta, ⟨hM.r19 hx, hO, h9, h0, h3, hr, hk5, htk⟩, hta, hsh, him⟩
theorem ceG_R (h : RInv M nt ns nk ta) (s i v : Int32) : RI (ceG M s i v).1 := by
  have l19 : (M.2.1 19).length = 160 := h.1.1.2.2.2.2.2.2.2.2.2.2.1
  unfold ceG
  split
  · split
    · exact ⟨nt, ns, nk, ta, h⟩
    · split
      · exact row19_R h (by rw [List.length_set]; exact l19)
      · exact ⟨nt, ns, nk, ta, h⟩
  · exact ⟨nt, ns, nk, ta, h⟩
theorem coG_R (h : RInv M nt ns nk ta) (s i o j n : Int32) : RI (coG M s i o j n).1 := by
  have l19 : (M.2.1 19).length = 160 := h.1.1.2.2.2.2.2.2.2.2.2.2.1
  unfold coG
  split
  · split
    · exact ⟨nt, ns, nk, ta, h⟩
    · split
      · split
        · exact row19_R h (by rw [coC_len]; exact l19)
        · exact ⟨nt, ns, nk, ta, h⟩
      · exact ⟨nt, ns, nk, ta, h⟩
  · exact ⟨nt, ns, nk, ta, h⟩
theorem sbF_R (s : Nat) (sz fr : Int32) : ∀ (m k : Nat) (Q : SB), RInv Q.1 nt ns Q.2.1 ta → RI (sbF nt ns s sz fr m k Q).1
  | 0, _, Q, h => ⟨nt, ns, Q.2.1, ta, h⟩
  | m + 1, k, Q, h => by
    rw [sbF]
    split
    · exact ⟨nt, ns, Q.2.1, ta, h⟩
    · refine sbF_R s sz fr m (k + 1) _ ?_
      unfold sbS
      generalize 40 * s + (fr + Int32.ofInt 3 * nI k).toNatClampNeg = c
      obtain ⟨nk', h1, h2⟩ := syG_R h (ceA Q.1 c) (ceA Q.1 (c + 1)) (ceA Q.1 (c + 2))
      rw [h2] at h1
      exact h1
theorem sbG_R (h : RInv M nt ns nk ta) (s sort fr n : Int32) : RI (sbG M nt ns nk s sort fr n).1 := by
  unfold sbG
  split
  · split
    · exact ⟨nt, ns, nk, ta, h⟩
    · split
      · exact sbF_R _ _ _ _ _ _ h
      · exact ⟨nt, ns, nk, ta, h⟩
  · exact ⟨nt, ns, nk, ta, h⟩
end RINV2
