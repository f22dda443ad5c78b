/-! parts 90 .. 97h, joined -/
section
-- 90.rinv
/-! THE REFERENCE in general: what always holds of it is kept -/
section RINV
variable {l : Launch} {X : List (List Int32)} {S : CS} {M : MS} {hp : AH} {nt ns nk : Nat}
theorem txL_le {ws tp : List Int32} {t tx : Nat} : ∀ (m p : Nat) (T : TS), T.2.1 ≤ t → T.2.2.2.1.length ≤ T.2.1 →
    (txL ws tp t tx m p T).2.1 ≤ t ∧ (txL ws tp t tx m p T).2.2.2.1.length ≤ (txL ws tp t tx m p T).2.1 ∧ (txL ws tp t tx m p T).2.2.2.2.length = T.2.2.2.2.length ∧ ∀ j, j < 4 * tx → (txL ws tp t tx m p T).2.2.2.2.getD j 0 = T.2.2.2.2.getD j 0
  | 0, _, T, h1, h2 => ⟨h1, h2, rfl, fun _ _ => rfl⟩
  | m + 1, p, T, h1, h2 => by
    have hsp := nxt_spec ws tp h1
    rw [txL]
    split
    · split
      · have hE := er_spec ws tp t (t + 1) true true (nxtF ws tp t T.2.1).2.1 ([], Int32.ofInt 0, T.2.2.2.1) hsp.1 (by simp [ptL]; omega)
        have hp2 : (erF ws tp t (t + 1) true true (nxtF ws tp t T.2.1).2.1 ([], Int32.ofInt 0, T.2.2.2.1)).2.2.1.length + (erF ws tp t (t + 1) true true (nxtF ws tp t T.2.1).2.1 ([], Int32.ofInt 0, T.2.2.2.1)).2.2.2.2.length ≤ (erF ws tp t (t + 1) true true (nxtF ws tp t T.2.1).2.1 ([], Int32.ofInt 0, T.2.2.2.1)).2.1.2.1 := hE.2
        have hp1 : (erF ws tp t (t + 1) true true (nxtF ws tp t T.2.1).2.1 ([], Int32.ofInt 0, T.2.2.2.1)).2.1.2.1 ≤ t := hE.1
        generalize erF ws tp t (t + 1) true true (nxtF ws tp t T.2.1).2.1 ([], Int32.ofInt 0, T.2.2.2.1) = E at hp1 hp2
        obtain ⟨i1, i2, i3, i4⟩ := txL_le m (p + 1) (E.1, E.2.1.2.1, nI E.2.1.1, E.2.2.2.2, T.2.2.2.2.set (4 * tx + p) (nI T.2.2.2.1.length)) hp1 (by show E.2.2.2.2.length ≤ E.2.1.2.1; omega)
        exact ⟨i1, i2, i3.trans List.length_set, fun j hj => (i4 j hj).trans (getD_set_ne (by omega))⟩
      · exact ⟨hsp.1, Nat.le_trans h2 hsp.2.1, List.length_set, fun j hj => getD_set_ne (by omega)⟩
    · exact ⟨h1, h2, rfl, fun _ _ => rfl⟩
/-- the image -/
def ImOk (M : MS) (nt : Nat) : Prop := M.1 11 = 0 ∨ ∃ ns nk r : Nat, M.1 12 = nI ns ∧ ns ≤ 5 ∧ M.1 13 = nI nk ∧ nk ≤ 12 ∧ M.1 14 = nI r ∧ r < nt ∧ (∀ i, i < 5 → Kd ((M.2.1 15).getD i 0) ((M.2.1 15).getD (5 + i) 0)) ∧ TkOk (M.2.1 16) nt nk
theorem TkOk.mono {xs : List Int32} {nt nt' nk : Nat} (h : TkOk xs nt nk) (q : nt ≤ nt') : TkOk xs nt' nk := fun k hk => by
  obtain ⟨s, t, u, e1, e2, e3, b1, b2, b3⟩ := h k hk
  exact ⟨s, t, u, e1, e2, e3, b1, by omega, b3⟩
theorem ImOk.mono {nt' : Nat} (h : ImOk M nt) (q : nt ≤ nt') : ImOk M nt' := by
  rcases h with h | ⟨a, b, r, h1, h2, h3, h4, h5, h6, h7, h8⟩
  · exact Or.inl h
  · exact Or.inr ⟨a, b, r, h1, h2, h3, h4, h5, by omega, h7, h8.mono q⟩
/-- what always holds of the reference -/
def RInv (M : MS) (nt ns nk ta : Nat) : Prop := MInv M nt ns nk ∧ (M.1 6 = nI ta ∧ ta ≤ 160) ∧ ShOk M ∧ ImOk M nt
theorem RInv.sc {ta : Nat} {z : SZ} (h : RInv M nt ns nk ta) (hz : ScOk z) : RInv (sc M z) nt ns nk ta := ⟨h.1.sc hz, h.2⟩
abbrev RI (M : MS) : Prop := ∃ nt ns nk ta, RInv M nt ns nk ta
end RINV
end
section
-- 91.rinv2
/-! THE REFERENCE in general: what is kept by each call that changes it -/
section RINV2
variable {l : Launch} {X : List (List Int32)} {S : CS} {M : MS} {hp : AH} {nt ns nk ta : Nat} {xs : List Int32}
theorem MLen.r1 (h : MLen M) (e : xs.length = 5) : MLen (mR M 1 xs) := by
  obtain ⟨a1, a2, a3, a4, a5, a6, a7, a8, a9, a10, a11, a12, a13, a14, a15, a16, a17, a18⟩ := h
  exact ⟨e, a2, a3, a4, a5, a6, a7, a8, a9, a10, a11, a12, a13, a14, a15, a16, a17, a18⟩
theorem MLen.r2 (h : MLen M) (e : xs.length = 5) : MLen (mR M 2 xs) := by
  obtain ⟨a1, a2, a3, a4, a5, a6, a7, a8, a9, a10, a11, a12, a13, a14, a15, a16, a17, a18⟩ := h
  exact ⟨a1, e, a3, a4, a5, a6, a7, a8, a9, a10, a11, a12, a13, a14, a15, a16, a17, a18⟩
theorem MLen.r4 (h : MLen M) (e : xs.length = 36) : MLen (mR M 4 xs) := by
  obtain ⟨a1, a2, a3, a4, a5, a6, a7, a8, a9, a10, a11, a12, a13, a14, a15, a16, a17, a18⟩ := h
  exact ⟨a1, a2, e, a4, a5, a6, a7, a8, a9, a10, a11, a12, a13, a14, a15, a16, a17, a18⟩
theorem MLen.r5 (h : MLen M) (e : xs.length = 160) : MLen (mR M 5 xs) := by
  obtain ⟨a1, a2, a3, a4, a5, a6, a7, a8, a9, a10, a11, a12, a13, a14, a15, a16, a17, a18⟩ := h
  exact ⟨a1, a2, a3, e, a5, a6, a7, a8, a9, a10, a11, a12, a13, a14, a15, a16, a17, a18⟩
theorem MLen.r15 (h : MLen M) (e : xs.length = 10) : MLen (mR M 15 xs) := by
  obtain ⟨a1, a2, a3, a4, a5, a6, a7, a8, a9, a10, a11, a12, a13, a14, a15, a16, a17, a18⟩ := h
  exact ⟨a1, a2, a3, a4, a5, a6, e, a8, a9, a10, a11, a12, a13, a14, a15, a16, a17, a18⟩
theorem MLen.r16 (h : MLen M) (e : xs.length = 36) : MLen (mR M 16 xs) := by
  obtain ⟨a1, a2, a3, a4, a5, a6, a7, a8, a9, a10, a11, a12, a13, a14, a15, a16, a17, a18⟩ := h
  exact ⟨a1, a2, a3, a4, a5, a6, a7, e, a9, a10, a11, a12, a13, a14, a15, a16, a17, a18⟩
theorem MLen.r17 (h : MLen M) (e : xs.length = 4) : MLen (mR M 17 xs) := by
  obtain ⟨a1, a2, a3, a4, a5, a6, a7, a8, a9, a10, a11, a12, a13, a14, a15, a16, a17, a18⟩ := h
  exact ⟨a1, a2, a3, a4, a5, a6, a7, a8, e, a10, a11, a12, a13, a14, a15, a16, a17, a18⟩
theorem MLen.r18 (h : MLen M) (e : xs.length = 4) : MLen (mR M 18 xs) := by
  obtain ⟨a1, a2, a3, a4, a5, a6, a7, a8, a9, a10, a11, a12, a13, a14, a15, a16, a17, a18⟩ := h
  exact ⟨a1, a2, a3, a4, a5, a6, a7, a8, a9, e, a11, a12, a13, a14, a15, a16, a17, a18⟩
theorem MLen.r19 (h : MLen M) (e : xs.length = 160) : MLen (mR M 19 xs) := by
  obtain ⟨a1, a2, a3, a4, a5, a6, a7, a8, a9, a10, a11, a12, a13, a14, a15, a16, a17, a18⟩ := h
  exact ⟨a1, a2, a3, a4, a5, a6, a7, a8, a9, a10, e, a12, a13, a14, a15, a16, a17, a18⟩
theorem MLen.n (h : MLen M) (i : Nat) (v : Int32) : MLen (mN M i v) := h
theorem getD_kd {ys zs : List Int32} {j : Nat} {k m : Int32} (h : ∀ i, i < 5 → Kd (ys.getD i 0) (zs.getD i 0)) (l1 : ys.length = 5) (l2 : zs.length = 5) (hj : j < 5) (hk : Kd k m) : ∀ i, i < 5 → Kd ((ys.set j k).getD i 0) ((zs.set j m).getD i 0) := by
  intro i hi
  by_cases e : j = i
  · subst e
    rw [getD_set_eq (by omega), getD_set_eq (by omega)]
    exact hk
  · rw [getD_set_ne e, getD_set_ne e]
    exact h i hi
theorem spG_R (h : RInv M nt ns nk ta) (k m : Int32) : RI (spG M ns k m).1 := by
  have hh := h
  obtain ⟨⟨hM, hO, h9, ⟨h0, h5⟩, h3, hr, hk5, htk⟩, hrest⟩ := h
  unfold spG
  by_cases q : soP k m
  · rw [if_pos q]
    by_cases e : ns = 5
    · rw [if_pos e]
      exact ⟨nt, ns, nk, ta, hh⟩
    · rw [if_neg e]
      exact ⟨nt, ns + 1, nk, ta, ⟨(((hM.r1 (by rw [List.length_set]; exact hM.1)).r2 (by rw [List.length_set]; exact hM.2.1)).n 0 _ : MLen (spM M ns k m)), hO, h9, ⟨rfl, by omega⟩, h3, hr, getD_kd hk5 hM.1 hM.2.1 (by omega) q, htk⟩, hrest⟩
  · rw [if_neg q]
    exact ⟨nt, ns, nk, ta, hh⟩
theorem trG_R (h : RInv M nt ns nk ta) (s k m : Int32) : RI (trG M ns s k m).1 := by
  have hh := h
  obtain ⟨⟨hM, hO, h9, ⟨h0, h5⟩, h3, hr, hk5, htk⟩, hrest⟩ := h
  unfold trG
  by_cases q0 : tP ns s
  · rw [if_pos q0]
    obtain ⟨a, ha, rfl⟩ := inN (by omega) q0
    by_cases q : soP k m
    · rw [if_pos q, nI_clamp (by omega)]
      exact ⟨nt, ns, nk, ta, ⟨((hM.r1 (by rw [List.length_set]; exact hM.1)).r2 (by rw [List.length_set]; exact hM.2.1) : MLen (trM M a k m)), hO, h9, ⟨h0, h5⟩, h3, hr, getD_kd hk5 hM.1 hM.2.1 (by omega) q, htk⟩, hrest⟩
    · rw [if_neg q]
      exact ⟨nt, ns, nk, ta, hh⟩
  · rw [if_neg q0]
    exact ⟨nt, ns, nk, ta, hh⟩
theorem syG_R (h : RInv M nt ns nk ta) (s t u : Int32) : ∃ nk', RInv (syG M nt ns nk s t u).1 nt ns nk' ta ∧ nk' = (if 0 ≤ (syG M nt ns nk s t u).2 then nk + 1 else nk) := by
  obtain ⟨nk', h1, -, -, -, h2⟩ := syG_inv h.1 s t u
  refine ⟨nk', ⟨h1, ?_⟩, h2⟩
  have rest := h.2
  unfold syG
  split
  · split
    · split
      · exact rest
      · exact rest
    · exact rest
  · exact rest
theorem fdG_R (h : RInv M nt ns nk ta) (n a b c d e : Int32) : RI (fdG M ta n a b c d e).1 := by
  have hh := h
  obtain ⟨⟨hM, hO, h9, h0, h3, hr, hk5, htk⟩, ⟨hta, hta2⟩, hsh, him⟩ := h
  unfold fdG
  by_cases q : feQ n a b c d e
  · rw [if_pos q]
    by_cases q2 : 160 < ta + n.toNatClampNeg
    · rw [if_pos q2]
      exact ⟨nt, ns, nk, ta, hh⟩
    · rw [if_neg q2]
      exact ⟨nt, ns, nk, ta + n.toNatClampNeg, ⟨(hM.r5 (by rw [fdM_len]; exact hM.2.2.2.1)).n 6 _, hO, h9, h0, h3, hr, hk5, htk⟩, ⟨rfl, by omega⟩, hsh, him⟩
  · rw [if_neg q]
    exact ⟨nt, ns, nk, ta, hh⟩
theorem getD_app5 {ys zs : List Int32} (h : ys.length = 5) {i : Nat} (hi : i < 5) : (ys ++ zs).getD i 0 = ys.getD i 0 ∧ (ys ++ zs).getD (5 + i) 0 = zs.getD i 0 := by
  constructor
  · rw [List.getD_eq_getElem?_getD, List.getD_eq_getElem?_getD, List.getElem?_append_left (by omega)]
  · rw [List.getD_eq_getElem?_getD, List.getD_eq_getElem?_getD, List.getElem?_append_right (by omega), h, Nat.add_sub_cancel_left]
theorem getD_cut5 {ys : List Int32} {i : Nat} (hi : i < 5) : (ys.take 5).getD i 0 = ys.getD i 0 ∧ (ys.drop 5).getD i 0 = ys.getD (5 + i) 0 := by
  constructor
  · rw [List.getD_eq_getElem?_getD, List.getD_eq_getElem?_getD, List.getElem?_take_of_lt hi]
  · rw [List.getD_eq_getElem?_getD, List.getD_eq_getElem?_getD, List.getElem?_drop]
theorem imM_R (h : RInv M nt ns nk ta) : RI (imM M) := by
  obtain ⟨⟨hM, hO, h9, ⟨h0, h05⟩, ⟨h3, h312⟩, ⟨r, hr, er⟩, hk5, htk⟩, hta, hsh, him⟩ := h
  have hL : MLen (imM M) := (((((hM.n 11 1).n 12 (M.1 0)).n 13 (M.1 3)).n 14 (M.1 10)).r15 (xs := M.2.1 1 ++ M.2.1 2) (by rw [List.length_append, hM.1, hM.2.1])).r16 (xs := M.2.1 4) hM.2.2.1
  refine ⟨nt, ns, nk, ta, ⟨hL, hO, h9, ⟨h0, h05⟩, ⟨h3, h312⟩, ⟨r, hr, er⟩, hk5, htk⟩, hta, hsh, Or.inr ⟨ns, nk, r, h0, h05, h3, h312, er, hr, fun i hi => ?_, htk⟩⟩
  show Kd ((M.2.1 1 ++ M.2.1 2).getD i 0) ((M.2.1 1 ++ M.2.1 2).getD (5 + i) 0)
  rw [(getD_app5 hM.1 hi).1, (getD_app5 hM.1 hi).2]
  exact hk5 i hi
theorem bkG_R (h : RInv M nt ns nk ta) : RI (bkG M).1 := by
  have hh := h
  obtain ⟨⟨hM, hO, h9, h0, h3, hr, hk5, htk⟩, hta, hsh, him⟩ := h
  have l15 : (M.2.1 15).length = 10 := hM.2.2.2.2.2.2.1
  unfold bkG
  by_cases q : M.1 11 = 0
  · rw [if_pos q]
    exact ⟨nt, ns, nk, ta, hh⟩
  · rw [if_neg q]
    obtain ⟨ns', nk', r, e1, b1, e2, b2, e3, b3, hk', ht'⟩ := him.resolve_left q
    have hL : MLen (bkM M) := ((((((hM.r1 (xs := (M.2.1 15).take 5) (by rw [List.length_take, l15]; rfl)).r2 (xs := (M.2.1 15).drop 5) (by rw [List.length_drop, l15])).r4 (xs := M.2.1 16) hM.2.2.2.2.2.2.2.1).n 0 (M.1 12)).n 3 (M.1 13)).n 10 (M.1 14))
    refine ⟨nt, ns', nk', ta, ⟨hL, hO, h9, ⟨e1, b1⟩, ⟨e2, b2⟩, ⟨r, b3, e3⟩, fun i hi => ?_, ht'⟩, hta, hsh, him⟩
    show Kd (((M.2.1 15).take 5).getD i 0) (((M.2.1 15).drop 5).getD i 0)
    rw [(getD_cut5 hi).1, (getD_cut5 hi).2]
    exact hk' i hi
theorem ShOk.set {ys zs : List Int32} {s : Nat} {v : Int32} {z : Nat} (h : ShOk M) (hv : m2P v) (hz : z ≤ 40) (l17 : (M.2.1 17).length = 4) (l18 : (M.2.1 18).length = 4) (xs : List Int32) : ShOk (mR (mR (mR M 17 ((M.2.1 17).set s v)) 18 ((M.2.1 18).set s (nI z))) 19 xs) := by
  intro i hi
  show m2P (((M.2.1 17).set s v).getD i 0) ∧ ∃ z' : Nat, z' ≤ 40 ∧ ((M.2.1 18).set s (nI z)).getD i 0 = nI z'
  by_cases e : s = i
  · subst e
    rw [getD_set_eq (by omega), getD_set_eq (by omega)]
    exact ⟨hv, z, hz, rfl⟩
  · rw [getD_set_ne e, getD_set_ne e]
    exact h i hi
theorem sheets_R (h : RInv M nt ns nk ta) {s : Nat} {v : Int32} {z : Nat} (hv : m2P v) (hz : z ≤ 40) {xs : List Int32} (hx : xs.length = 160) : RI (mR (mR (mR M 17 ((M.2.1 17).set s v)) 18 ((M.2.1 18).set s (nI z))) 19 xs) := by
  obtain ⟨⟨hM, hO, h9, h0, h3, hr, hk5, htk⟩, hta, hsh, him⟩ := h
  have l17 : (M.2.1 17).length = 4 := hM.2.2.2.2.2.2.2.2.1
  have l18 : (M.2.1 18).length = 4 := hM.2.2.2.2.2.2.2.2.2.1
  exact ⟨nt, ns, nk, ta, ⟨((hM.r17 (by rw [List.length_set]; exact l17)).r18 (by rw [List.length_set]; exact l18)).r19 hx, hO, h9, h0, h3, hr, hk5, htk⟩, hta, hsh.set (ys := []) (zs := []) hv hz l17 l18 xs, him⟩
theorem shG_R (h : RInv M nt ns nk ta) (s sort n : Int32) : RI (shG M s sort n).1 := by
  have l19 : (M.2.1 19).length = 160 := h.1.1.2.2.2.2.2.2.2.2.2.2.1
  unfold shG
  by_cases q : p3P s ∧ m2P sort ∧ (sort = -1 ∨ n ≤ 40)
  · rw [if_pos q]
    by_cases q2 : ¬ sort = -1 ∧ n < 0
    · rw [if_pos q2]
      exact ⟨nt, ns, nk, ta, h⟩
    · rw [if_neg q2]
      obtain ⟨z, hz, e⟩ : ∃ z : Nat, z ≤ 40 ∧ (if sort = -1 then (0 : Int32) else n) = nI z := by
        by_cases q3 : sort = -1
        · exact ⟨0, by decide, if_pos q3⟩
        · have q4 : n ≤ 40 := q.2.2.resolve_left q3
          obtain ⟨k, hk, e⟩ := inC (c := 40) (n := 40) (by decide) (by decide) ⟨Int32.not_lt.mp (fun y => q2 ⟨q3, y⟩), q4⟩
          exact ⟨k, hk, (if_neg q3).trans e⟩
      show RI (shM M s.toNatClampNeg sort n)
      unfold shM
      rw [e]
      exact sheets_R h q.2.1 hz (by rw [zeC_len]; exact l19)
  · rw [if_neg q]
    exact ⟨nt, ns, nk, ta, h⟩
theorem fiG_R (h : RInv M nt ns nk ta) (s : Int32) : RI (fiG M nk s).1 := by
  have l19 : (M.2.1 19).length = 160 := h.1.1.2.2.2.2.2.2.2.2.2.2.1
  have h12 := h.1.2.2.2.2.1.2
  unfold fiG
  by_cases q : p3P s
  · rw [if_pos q]
    exact sheets_R h (v := 2) (z := 3 * nk) (by decide) (by omega) (by rw [zeC_len]; exact l19)
  · rw [if_neg q]
    exact ⟨nt, ns, nk, ta, h⟩
theorem row19_R (h : RInv M nt ns nk ta) {xs : List Int32} (hx : xs.length = 160) : RI (mR M 19 xs) := by
  obtain ⟨⟨hM, hO, h9, h0, h3, hr, hk5, htk⟩, hta, hsh, him⟩ := h
  exact ⟨nt, ns, nk, ta, ⟨hM.r19 hx, hO, h9, h0, h3, hr, hk5, htk⟩, hta, hsh, him⟩
theorem ceG_R (h : RInv M nt ns nk ta) (s i v : Int32) : RI (ceG M s i v).1 := by
  have l19 : (M.2.1 19).length = 160 := h.1.1.2.2.2.2.2.2.2.2.2.2.1
  unfold ceG
  split
  · split
    · exact ⟨nt, ns, nk, ta, h⟩
    · split
      · exact row19_R h (by rw [List.length_set]; exact l19)
      · exact ⟨nt, ns, nk, ta, h⟩
  · exact ⟨nt, ns, nk, ta, h⟩
theorem coG_R (h : RInv M nt ns nk ta) (s i o j n : Int32) : RI (coG M s i o j n).1 := by
  have l19 : (M.2.1 19).length = 160 := h.1.1.2.2.2.2.2.2.2.2.2.2.1
  unfold coG
  split
  · split
    · exact ⟨nt, ns, nk, ta, h⟩
    · split
      · split
        · exact row19_R h (by rw [coC_len]; exact l19)
        · exact ⟨nt, ns, nk, ta, h⟩
      · exact ⟨nt, ns, nk, ta, h⟩
  · exact ⟨nt, ns, nk, ta, h⟩
theorem sbF_R (s : Nat) (sz fr : Int32) : ∀ (m k : Nat) (Q : SB), RInv Q.1 nt ns Q.2.1 ta → RI (sbF nt ns s sz fr m k Q).1
  | 0, _, Q, h => ⟨nt, ns, Q.2.1, ta, h⟩
  | m + 1, k, Q, h => by
    rw [sbF]
    split
    · exact ⟨nt, ns, Q.2.1, ta, h⟩
    · refine sbF_R s sz fr m (k + 1) _ ?_
      unfold sbS
      generalize 40 * s + (fr + Int32.ofInt 3 * nI k).toNatClampNeg = c
      obtain ⟨nk', h1, h2⟩ := syG_R h (ceA Q.1 c) (ceA Q.1 (c + 1)) (ceA Q.1 (c + 2))
      rw [h2] at h1
      exact h1
theorem sbG_R (h : RInv M nt ns nk ta) (s sort fr n : Int32) : RI (sbG M nt ns nk s sort fr n).1 := by
  unfold sbG
  split
  · split
    · exact ⟨nt, ns, nk, ta, h⟩
    · split
      · exact sbF_R _ _ _ _ _ _ h
      · exact ⟨nt, ns, nk, ta, h⟩
  · exact ⟨nt, ns, nk, ta, h⟩
end RINV2
end
section
-- 92.rcall
/-! THE REFERENCE in general: each of its calls returns, and all is kept -/
section RCALL
variable {l : Launch} {X : List (List Int32)} {S : CS} {M : MS}
end RCALL
end
section
-- 93.kinv
/-! THE CLASS in general: what always holds of it; calls without loops return and keep it -/
section KINV
variable {l : Launch} {X : List (List Int32)} {S : CS} {T : AH} {hp : AH} {nt ns nk ta : Nat}
def KI (S : CS) (nt ns nk ta : Nat) : Prop := CInv S nt ns nk ∧ TxInv S ∧ (S.1 11 = nI ta ∧ ta ≤ 160) ∧ ∃ a b : Nat, S.1 173 = nI a ∧ a ≤ 5 ∧ S.1 174 = nI b ∧ b ≤ 12
abbrev KC (S : CS) : Prop := ∃ nt ns nk ta, KI S nt ns nk ta
/-- a query: only what its best question is has changed -/
abbrev kqQ (S : CS) (T : AH) : AH → Option Value → Prop := fun h w => (∃ B, h = encC (setB S B) ++ T) ∧ ∃ v : Int32, w = some (.int v)
theorem lq (_ : KC S) {v : Int32} : kqQ S T (encC S ++ T) (some (.int v)) := ⟨⟨getB S, rfl⟩, v, rfl⟩
theorem KC.setB (h : KC S) (B : BQ) : KC (setB S B) := h
theorem KC.len (h : KC S) : CLen S := let ⟨_, _, _, _, q⟩ := h; q.1.1
theorem KI.rows {a b : List Int32} {i j : Nat} (h : KI S nt ns nk ta) (hi : 8 ≤ i) (hj : 8 ≤ j) (ha : a.length ≤ 1000) (hb : b.length ≤ 1000) : KI (cR (cR S i a) j b) nt ns nk ta := by
  obtain ⟨⟨hL, h1⟩, ⟨t4, t5, t6, t60, t7⟩, h3⟩ := h
  have e : ∀ k, k ≤ 7 → (cR (cR S i a) j b).2 k = S.2 k := by
    intro k hk
    show uf (uf S.2 i a) j b k = S.2 k
    unfold uf
    rw [if_neg (by omega), if_neg (by omega)]
  refine ⟨⟨(hL.row i a ha).row j b hb, h1⟩, ?_, h3⟩
  unfold TxInv
  rw [e 4 (by decide), e 5 (by decide), e 6 (by decide), e 7 (by decide)]
  exact ⟨t4, t5, t6, t60, t7⟩
theorem KI.row {a : List Int32} {i : Nat} (h : KI S nt ns nk ta) (hi : 8 ≤ i) (ha : a.length ≤ 1000) : KI (cR S i a) nt ns nk ta := by
  obtain ⟨⟨hL, h1⟩, ⟨t4, t5, t6, t60, t7⟩, h3⟩ := h
  have e : ∀ k, k ≤ 7 → (cR S i a).2 k = S.2 k := by
    intro k hk
    show uf S.2 i a k = S.2 k
    unfold uf
    rw [if_neg (by omega)]
  refine ⟨⟨hL.row i a ha, h1⟩, ?_, h3⟩
  unfold TxInv
  rw [e 4 (by decide), e 5 (by decide), e 6 (by decide), e 7 (by decide)]
  exact ⟨t4, t5, t6, t60, t7⟩
end KINV
end
section
-- 94.kcall
/-! THE CLASS in general: sayings, sheets, images, what is taken -/
section KCALL
variable {l : Launch} {X : List (List Int32)} {S : CS} {T : AH} {hp : AH} {nt ns nk ta : Nat}
abbrev S3 (S : CS) (s t u : Int32) : CS := cN (cR S 16 (putF (putF (putF (S.2 16) (Int32.ofInt 3 * S.1 134) s) (Int32.ofInt 3 * S.1 134 + Int32.ofInt 1) t) (Int32.ofInt 3 * S.1 134 + Int32.ofInt 2) u)) 134 (S.1 134 + Int32.ofInt 1)
set_option maxRecDepth 100000 in
theorem c_append (hL : CLen S) (s t u : Int32) (h : S.1 134 < 12) : Ctr l 1 X sgX4_append [.ref 13, .int s, .int t, .int u] (encC S ++ T) (fun h w => h = encC (S3 S s t u) ++ T ∧ w = none) := by
  have h16 := hL.lt 16
  refine Ctr.of okX4_append rfl (Nat.le_of_ble_eq_true rfl) (run_sound okX4_append noCut 200 ?_)
  exact brT h (kH (c_put (xs := S.2 16) rfl rfl h16) (by decide) (kH (c_put (xs := putF (S.2 16) (Int32.ofInt 3 * S.1 134) s) rfl rfl (by rw [putF_len]; exact h16)) (by decide) (kH (c_put (xs := putF (putF (S.2 16) (Int32.ofInt 3 * S.1 134) s) (Int32.ofInt 3 * S.1 134 + Int32.ofInt 1) t) rfl rfl (by rw [putF_len, putF_len]; exact h16)) (by decide) (And.intro rfl (And.intro trivial ⟨rfl, rfl, rfl⟩)))))
theorem KI.say (h : KI S nt ns nk ta) (hk : nk < 12) (s t u : Int32) : KI (S3 S s t u) nt ns (nk + 1) ta := by
  have q' := h.row (i := 16) (a := putF (putF (putF (S.2 16) (Int32.ofInt 3 * S.1 134) s) (Int32.ofInt 3 * S.1 134 + Int32.ofInt 1) t) (Int32.ofInt 3 * S.1 134 + Int32.ofInt 2) u) (by decide) (by rw [putF_len, putF_len, putF_len]; exact h.1.1 16)
  obtain ⟨⟨c1, c2, c3, c4, c5, c6, c7⟩, r2⟩ := q'
  have c6 : S.1 134 = nI nk := c6
  exact ⟨⟨c1, c2, c3, c4, c5, (by show S.1 134 + Int32.ofInt 1 = nI (nk + 1); rw [c6]; exact nI_1 nk), by omega⟩, r2⟩
set_option maxRecDepth 100000 in
theorem c_holds (hL : CLen S) (s i : Int32) : Ans l 1 X sgX3_holds [.ref 21, .int s, .int i] (encC S ++ T) (bI (0 ≤ i ∧ i < atF (S.2 23) s)) := by
  refine Ctr.of okX3_holds rfl (Nat.le_of_ble_eq_true rfl) (run_sound okX3_holds noCut 200 ?_)
  exact kH (c_at (xs := S.2 23) rfl (hL.lt 23)) (by decide) (kH (c_isBelow _ _) (by decide) ⟨nar_bI, rfl, rfl⟩)
abbrev hrP (S : CS) (s i n : Int32) : Prop := ¬ n < 0 ∧ ¬ i < 0 ∧ n ≤ atF (S.2 23) s ∧ i ≤ atF (S.2 23) s - n
set_option maxRecDepth 100000 in
theorem c_holdsRun (hL : CLen S) (s i n : Int32) : Ans l 1 X sgX3_holdsRun [.ref 21, .int s, .int i, .int n] (encC S ++ T) (bI (hrP S s i n)) := by
  refine Ctr.of okX3_holdsRun rfl (Nat.le_of_ble_eq_true rfl) (run_sound okX3_holdsRun noCut 200 ?_)
  refine br (fun y => ⟨rfl, rfl, some_int (bIe0 (fun z => z.1 y))⟩) (fun y1 => br (fun y => ⟨rfl, rfl, some_int (bIe0 (fun z => z.2.1 y))⟩) (fun y2 => kH (c_at (xs := S.2 23) rfl (hL.lt 23)) (by decide) (br (fun y => ⟨rfl, rfl, some_int (bIe0 (fun z => absurd y (Int32.not_lt.mpr z.2.2.1)))⟩) (fun y3 => kH (c_at (xs := S.2 23) rfl (hL.lt 23)) (by decide) (br (fun y => ⟨rfl, rfl, some_int (bIe0 (fun z => absurd y (Int32.not_lt.mpr z.2.2.2)))⟩) (fun y4 => ⟨rfl, rfl, some_int (bIe1 ⟨y1, y2, Int32.not_lt.mp y3, Int32.not_lt.mp y4⟩)⟩))))))
set_option maxRecDepth 100000 in
theorem c_read (hL : CLen S) (s i : Int32) : Ans l 1 X sgX3_read [.ref 21, .int s, .int i] (encC S ++ T) (atF (S.2 24) (s * Int32.ofInt 40 + i)) := by
  refine Ctr.of okX3_read rfl (Nat.le_of_ble_eq_true rfl) (run_sound okX3_read noCut 200 ?_)
  exact kH (c_at (xs := S.2 24) rfl (hL.lt 24)) (by decide) ⟨rfl, rfl⟩
def wrV (S : CS) (s v : Int32) : Int32 := if atF (S.2 22) s = 0 then v.toInt8.toInt32 else if atF (S.2 22) s = 1 then v.toInt16.toInt32 else v
abbrev wrS (S : CS) (s i v : Int32) : CS := cR S 24 (putF (S.2 24) (s * Int32.ofInt 40 + i) (wrV S s v))
set_option maxRecDepth 100000 in
theorem c_write (hL : CLen S) (s i v : Int32) : Ctr l 1 X sgX3_write [.ref 21, .int s, .int i, .int v] (encC S ++ T) (fun h w => h = encC (wrS S s i v) ++ T ∧ w = none) := by
  refine Ctr.of okX3_write rfl (Nat.le_of_ble_eq_true rfl) (run_sound okX3_write (fun i => Nat.beq i 17) 200 ?_)
  have t17 : ∀ x, x = wrV S s v → WP l (rmD 1 0 0) X sgX3_write kX3_write (fun h w => h = encC (wrS S s i v) ++ T ∧ w = none) 17 [some (.ref 21), some (.int s), some (.int i), some (.int v), some (.int (atF (S.2 22) s)), none] [.int x] (encC S ++ T) 0 0 := by
    intro x hx
    subst hx
    exact run_sound okX3_write noCut 200 (kH (c_put (xs := S.2 24) rfl rfl (hL.lt 24)) (by decide) ⟨rfl, rfl, rfl⟩)
  exact kH (c_at (xs := S.2 22) rfl (hL.lt 22)) (by decide) (br (fun y => t17 _ (if_pos y).symm) (fun y => br (fun y2 => t17 _ ((if_neg y).trans (if_pos y2)).symm) (fun y2 => t17 _ ((if_neg y).trans (if_neg y2)).symm)))
theorem KC.write (h : KC S) (s i v : Int32) : KC (wrS S s i v) := by
  obtain ⟨nt, ns, nk, ta, q⟩ := h
  exact ⟨nt, ns, nk, ta, q.row (by decide) (by rw [putF_len]; exact q.1.1 24)⟩
abbrev anQ (h0 : AH) : AH → Option Value → Prop := fun h w => h = h0 ∧ ∃ v : Int32, w = some (.int v)
theorem any {h0 : AH} (v : Int32) : anQ h0 h0 (some (.int v)) := ⟨rfl, v, rfl⟩
end KCALL
end
section
-- 95.kcall2
/-! THE CLASS in general: texts, sheets made, images -/
section KCALL2
variable {l : Launch} {X : List (List Int32)} {S : CS} {T : AH} {hp : AH} {nt ns nk ta : Nat}
theorem putF_0 {st : List Int32} {k : Nat} {v : Int32} (hk : k < 100) : (putF st (nI k + 1) v).getD 0 0 = st.getD 0 0 := by
  unfold putF
  split
  · rw [nI_1, nI_clamp (by omega), getD_set_ne (by omega)]
  · rfl
theorem rtP_keep (orf : GF) (tp : List Int32) (t : Nat) : ∀ (m k : Nat) (p : PS) (st : List Int32), m + k ≤ 3 → (rtP orf tp t m k p st).2.2.length = st.length ∧ (rtP orf tp t m k p st).2.2.getD 0 0 = st.getD 0 0
  | 0, _, _, _, _ => ⟨rfl, rfl⟩
  | m + 1, k, p, st, h => by
    rw [rtP]
    split
    · split
      · split
        · have ih := rtP_keep orf tp t m (k + 1) (advP tp t (orf (advP tp t p)).2) (putF st (nI k + 1) (nI (orf (advP tp t p)).2.2.length)) (by omega)
          rw [putF_len, putF_0 (by omega)] at ih
          exact ih
        · exact ⟨putF_len, putF_0 (by omega)⟩
      · exact ⟨rfl, rfl⟩
    · exact ⟨rfl, rfl⟩
theorem txS_K (h : KI S nt ns nk ta) {t : Nat} {r4 r5 : List Int32} {c : List (Int32 × Int32)} (hcr : CR r4 r5 c) : KI (txS S t r4 r5) nt ns nk 0 := by
  obtain ⟨⟨hL, h1⟩, ⟨t4, t5, t6, t60, t7⟩, h3, h4⟩ := h
  have hk := rtP_keep (lvP (S.2 2) t 5).1 (S.2 2) t 3 0 (lexF (S.2 2) t 0, []) (S.2 6) (by decide)
  have hk : (RT S t).2.2.length = (S.2 6).length ∧ (RT S t).2.2.getD 0 0 = (S.2 6).getD 0 0 := hk
  unfold txS
  generalize RT S t = W at hk
  refine ⟨⟨pS_len (n := W.2.1.2.length) (cR6_len hL (by rw [hk.1, t6]; decide)) hcr.1 hcr.2.1, h1⟩, ?_, ⟨rfl, Nat.zero_le _⟩, h4⟩
  exact ⟨hcr.1, hcr.2.1, hk.1.trans t6, hk.2.trans t60, t7⟩
theorem okS_K (h : KI S nt ns nk ta) (hn : nt < 6) {t : Nat} {r4 r5 r7 : List Int32} {m : Int32} {c : List (Int32 × Int32)} (hcr : CR r4 r5 c) (h7 : r7.length = 160) : KI (okS S t r4 r5 r7 m) (nt + 1) ns nk 0 := by
  have q := txS_K h (t := t) hcr
  obtain ⟨⟨hL, c2, c3, c4⟩, ⟨t4, t5, t6, t60, t7⟩, h3, h4⟩ := q
  have h93 : S.1 93 = nI nt := h.1.2.1
  have hL2 : CLen (addX (txS S t r4 r5) (RT S t).2.1.2 5) := addX_len hL 5
  refine ⟨⟨hL2.row 7 r7 (by rw [h7]; decide), ?_, by omega, c4⟩, ⟨t4, t5, t6, t60, h7⟩, h3, h4⟩
  show S.1 93 + 1 = nI (nt + 1)
  rw [h93, nI_1]
end KCALL2
end
section
-- 96.kcall3
/-! THE CLASS in general: copies, sayings by a sheet, images -/
section KCALL3
variable {l : Launch} {X : List (List Int32)} {S : CS} {T : AH} {hp : AH} {nt ns nk ta : Nat}
theorem KC.row (h : KC S) {i : Nat} {a : List Int32} (hi : 8 ≤ i) (ha : a.length ≤ 1000) : KC (cR S i a) := by
  obtain ⟨nt, ns, nk, ta, q⟩ := h
  exact ⟨nt, ns, nk, ta, q.row hi ha⟩
def cNmv (i : Nat) : Bool := Nat.beq i 2 || Nat.beq i 19
theorem p3_or {n c : Int32} {z : Nat} (h0 : ¬ n < 0) (h1 : n ≤ c) (hc : c.toInt = z) (hz : z < 2 ^ 31) : ∃ k : Nat, k ≤ z ∧ n = nI k := by
  have g0 := Int32.le_iff_toInt_le.mp (Int32.not_lt.mp h0)
  have g1 := Int32.le_iff_toInt_le.mp h1
  have e0 : (0 : Int32).toInt = 0 := by decide
  refine ⟨n.toInt.toNat, by omega, Int32.toInt_inj.mp ?_⟩
  rw [nI_toInt (by omega)]
  omega
def cNsy (i : Nat) : Bool := Nat.beq i 9 || Nat.beq i 16 || Nat.beq i 38
abbrev kepS (S : CS) (a b c : List Int32) : CS := cN (cN (cN (cR (cR (cR S 18 a) 19 b) 20 c) 173 (S.1 133)) 174 (S.1 134)) 175 (S.1 135)
abbrev bakS (S : CS) (a b c : List Int32) : CS := cN (cN (cN (cR (cR (cR S 14 a) 15 b) 16 c) 133 (S.1 173)) 134 (S.1 174)) 135 (S.1 175)
theorem len2 (hL : CLen S) {i j : Nat} {a b : List Int32} (ha : a.length ≤ 1000) (hb : b.length ≤ 1000) : CLen (cR (cR S i a) j b) := (hL.row i a ha).row j b hb
def cNli (i : Nat) : Bool := Nat.beq i 5 || Nat.beq i 23
end KCALL3
end
section
-- 97.kcall4
/-! THE CLASS in general: the tape, pairs, habits, texts' claims and marks -/
section KCALL4
variable {l : Launch} {X : List (List Int32)} {S : CS} {T : AH} {hp : AH} {nt ns nk ta : Nat}
theorem nle {a : Int32} {n : Nat} (e : a = nI n) : a ≤ nI n := by rw [e]; exact Int32.le_refl _
theorem nge {a : Int32} {n k : Nat} (e : a = nI n) (hk : k < n) (hn : n < 2 ^ 31) : ¬ a ≤ nI k := by rw [e]; exact nI_ge hk hn
theorem KI.tape (h : KI S nt ns nk ta) (ht : ta < 160) (v : Int32) : KI (cN (cR S 2 (putF (S.2 2) (S.1 11) v)) 11 (S.1 11 + 1)) nt ns nk (ta + 1) := by
  obtain ⟨⟨hL, h1⟩, h2, ⟨h3, h4⟩, h5⟩ := h
  exact ⟨⟨hL.row 2 _ (by rw [putF_len]; exact hL 2), h1⟩, h2, ⟨by show S.1 11 + 1 = nI (ta + 1); rw [h3, nI_1], by omega⟩, h5⟩
def cNpa (i : Nat) : Bool := Nat.beq i 10 || Nat.beq i 42
def cNhb (i : Nat) : Bool := Nat.beq i 11 || Nat.beq i 19 || Nat.beq i 47 || Nat.beq i 53
end KCALL4
end
section
-- 97b.kcall5
/-! THE CLASS in general: two, hide, settle, many, judge, drawn, mean -/
section KCALL5
variable {l : Launch} {X : List (List Int32)} {S : CS} {T : AH} {hp : AH} {nt ns nk ta : Nat}
def kNtw (i : Nat) : Bool := Nat.beq i 21 || Nat.beq i 28 || Nat.beq i 50
def kNhi (i : Nat) : Bool := Nat.beq i 11 || Nat.beq i 23 || Nat.beq i 62
set_option maxRecDepth 100000 in
theorem K_hide (hX : X[0]? = some soInL) (h : KC S) (s w x : Int32) : Ctr l 7 X sgX7_hide [.ref 0, .int s, .int w, .int x] (encC S ++ T) (kqQ S T) := by
  obtain ⟨nt, ns, nk, ta, q⟩ := id h
  have hL := h.len
  have n6 := q.1.2.2.1.2
  have h93 : Int32.ofInt 2 * S.1 93 = nI (2 * nt) := by
    rw [q.1.2.1]
    exact nI_mul 2 nt
  refine Ctr.of okX7_hide rfl (Nat.le_of_ble_eq_true rfl) (run_sound okX7_hide kNhi 200 ?_)
  have t11 : WP l (rmD 7 0 0) X sgX7_hide kX7_hide (kqQ S T) 11 [some (.ref 0), some (.int s), some (.int w), some (.int x), none, none, none, none, none] [] (encC S ++ T) 0 0 := run_sound okX7_hide noCut 200 (lq h)
  refine kH (c_isSpeaker s) (by decide) (brB' (fun _ => t11) (fun _ => kH (c_isWorld w) (by decide) (brB' (fun _ => t11) (fun _ => kH (c_isBelow x 5) (by decide) (brB' (fun _ => t11) (fun _ => kH (c_lawful hL) (by decide) (kH (c_fitting q.1) (by decide) ?_)))))))
  have key : ∀ a b : Int32, ∀ k, k ≤ 2 * nt → ∀ (y : Int32) z, WP l (rmD 7 0 0) X sgX7_hide kX7_hide (kqQ S T) 23 [some (.ref 0), some (.int s), some (.int w), some (.int x), some (.int a), some (.int b), some (.int y), some (.int (nI k)), z] [] (encC S ++ T) 0 0 := by
    intro a b
    refine down (fun y z => ?_) (fun k hk ih y z => ?_)
    · exact run_sound okX7_hide kNhi 200 (brT (nle h93) (lq h))
    · have t62 : ∀ (y : Int32) z, WP l (rmD 7 0 0) X sgX7_hide kX7_hide (kqQ S T) 62 [some (.ref 0), some (.int s), some (.int w), some (.int x), some (.int a), some (.int b), some (.int y), some (.int (nI k)), z] [] (encC S ++ T) 0 0 := by
        intro y z
        have ih := ih y z
        rw [← nI_1 k] at ih
        exact run_sound okX7_hide kNhi 200 ih
      exact run_sound okX7_hide kNhi 200 (brF (nge h93 hk (by omega)) (kH (c_sayableNext hL _ _ _ _) (by decide) (kH (c_bit _ _) (by decide) (br (fun _ => kH (c_isSure hX _ _) (by decide) (br (fun _ => t62 _ _) (fun _ => t62 _ _))) (fun _ => t62 _ _)))))
  exact key _ _ 0 (Nat.zero_le _) _ _
def kNmk (i : Nat) : Bool := Nat.beq i 4 || Nat.beq i 27
def kNse (i : Nat) : Bool := Nat.beq i 4 || Nat.beq i 31
def kNst (i : Nat) : Bool := Nat.beq i 13 || Nat.beq i 34
def kNme (i : Nat) : Bool := Nat.beq i 17 || Nat.beq i 30
end KCALL5
end
section
-- 97c.kprec
/-! THE CLASS in general: what each call that changes it makes of it, precisely -/
section KPREC
variable {l : Launch} {X : List (List Int32)} {S : CS} {T : AH} {hp : AH} {nt ns nk ta : Nat}
/-- a state and an answer -/
abbrev kpQ (T : AH) (r : CS × Int32) : AH → Option Value → Prop := fun h w => h = encC r.1 ++ T ∧ w = some (.int r.2)
theorem kp {r : CS × Int32} {S' : CS} {v : Int32} (e : r = (S', v)) : kpQ T r (encC S' ++ T) (some (.int v)) := by
  subst e
  exact ⟨rfl, rfl⟩
abbrev kxP (n : Int32) (t : Int32) : Prop := (0 : Int32) ≤ t ∧ t < n
abbrev ksoP (k m : Int32) : Prop := ((0 : Int32) ≤ k ∧ k < 6) ∧ ((0 : Int32) ≤ m ∧ m ≤ 9)
def kspG (S : CS) (k m : Int32) : CS × Int32 := if ksoP k m then (if S.1 133 < 5 then (cN (cR (cR S 14 (putF (S.2 14) (S.1 133) k)) 15 (putF (S.2 15) (S.1 133) m)) 133 (S.1 133 + 1), S.1 133) else (S, -4)) else (S, -2)
set_option maxRecDepth 100000 in
theorem P_speaker (hL : CLen S) (k m : Int32) : Ctr l 2 X sgX7_speaker [.ref 0, .int k, .int m] (encC S ++ T) (kpQ T (kspG S k m)) := by
  refine Ctr.of okX7_speaker rfl (Nat.le_of_ble_eq_true rfl) (run_sound okX7_speaker noCut 200 ?_)
  refine kH (c_isKind k) (by decide) (brB' (fun q => kp (if_neg (fun z => q z.1))) (fun q => kH (c_isMore m) (by decide) (brB' (fun q2 => kp (if_neg (fun z => q2 z.2))) (fun q2 => br (fun y => kH (c_become13 hL _ k m) (by decide) ?_) (fun y => kp ((if_pos ⟨q, q2⟩).trans (if_neg y)))))))
  have e : kspG S k m = (cN (cR (cR S 14 (putF (S.2 14) (S.1 133) k)) 15 (putF (S.2 15) (S.1 133) m)) 133 (S.1 133 + 1), S.1 133) := (if_pos ⟨q, q2⟩).trans (if_pos y)
  rw [e]
  exact And.intro rfl (And.intro trivial ⟨rfl, rfl⟩)
def ktrG (S : CS) (s k m : Int32) : CS × Int32 := if kxP (S.1 133) s then (if ksoP k m then (cR (cR S 14 (putF (S.2 14) s k)) 15 (putF (S.2 15) s m), atF (S.2 14) s) else (S, -7)) else (S, -5)
set_option maxRecDepth 100000 in
theorem P_turn (hL : CLen S) (s k m : Int32) : Ctr l 2 X sgX7_turn [.ref 0, .int s, .int k, .int m] (encC S ++ T) (kpQ T (ktrG S s k m)) := by
  refine Ctr.of okX7_turn rfl (Nat.le_of_ble_eq_true rfl) (run_sound okX7_turn noCut 200 ?_)
  exact kH (c_isSpeaker s) (by decide) (brB' (fun q => kp (if_neg q)) (fun q => kH (c_isKind k) (by decide) (brB' (fun q2 => kp ((if_pos q).trans (if_neg (fun z => q2 z.1)))) (fun q2 => kH (c_isMore m) (by decide) (brB' (fun q3 => kp ((if_pos q).trans (if_neg (fun z => q3 z.2)))) (fun q3 => kH (c_at (xs := S.2 14) rfl (hL.lt 14)) (by decide) (kH (c_become13 hL s k m) (by decide) (kp ((if_pos q).trans (if_pos ⟨q2, q3⟩))))))))))
def ktdG (S : CS) (s what : Int32) : Int32 := if kxP (S.1 133) s then (if what = 0 then atF (S.2 14) s else if what = 1 then atF (S.2 15) s else if what = 2 then bI (atF (S.2 14) s = 5) else -7) else -5
set_option maxRecDepth 100000 in
theorem P_told (hL : CLen S) (s what : Int32) : Ans l 2 X sgX7_told [.ref 0, .int s, .int what] (encC S ++ T) (ktdG S s what) := by
  refine Ctr.of okX7_told rfl (Nat.le_of_ble_eq_true rfl) (run_sound okX7_told noCut 200 ?_)
  refine kH (c_isSpeaker s) (by decide) (brB' (fun q => ⟨rfl, some_int (if_neg q).symm⟩) (fun q => ?_))
  have e : ktdG S s what = if what = 0 then atF (S.2 14) s else if what = 1 then atF (S.2 15) s else if what = 2 then bI (atF (S.2 14) s = 5) else -7 := if_pos q
  rw [e]
  refine And.intro (fun h => ⟨rfl, some_int ?_⟩) (And.intro (fun h => ?_) (And.intro (fun h => ?_) (And.intro (fun h => ?_) trivial)))
  · have n0 : ¬ what = 0 := fun z => by subst z; revert h; decide
    have n1 : ¬ what = 1 := fun z => by subst z; revert h; decide
    have n2 : ¬ what = 2 := fun z => by subst z; revert h; decide
    rw [if_neg n0, if_neg n1, if_neg n2]
    rfl
  · subst h; exact kH (c_at (xs := S.2 14) rfl (hL.lt 14)) (by decide) ⟨rfl, rfl⟩
  · subst h; exact kH (c_at (xs := S.2 15) rfl (hL.lt 15)) (by decide) ⟨rfl, rfl⟩
  · subst h; exact kH (c_at (xs := S.2 14) rfl (hL.lt 14)) (by decide) (br (fun y => ⟨rfl, some_int (bIe1 y)⟩) (fun y => ⟨rfl, some_int (bIe0 y)⟩))
def kfoG (S : CS) (t : Int32) : CS × Int32 := if kxP (S.1 93) t then (cN S 135 t, S.1 135) else (S, -2)
set_option maxRecDepth 100000 in
theorem P_force (t : Int32) : Ctr l 2 X sgX7_force [.ref 0, .int t] (encC S ++ T) (kpQ T (kfoG S t)) := by
  refine Ctr.of okX7_force rfl (Nat.le_of_ble_eq_true rfl) (run_sound okX7_force noCut 100 ?_)
  refine kH (c_isText t) (by decide) (brB' (fun q => kp (if_neg q)) (fun q => ?_))
  have e : kfoG S t = (cN S 135 t, S.1 135) := if_pos q
  rw [e]
  exact And.intro trivial ⟨rfl, rfl⟩
def ksyG (S : CS) (s t u : Int32) : CS × Int32 := if kxP (S.1 133) s ∧ kxP (S.1 93) t then (if kxP 2 u then (if S.1 134 < 12 then (S3 S s t u, S.1 134 + 1 - 1) else (S, -4)) else (S, -7)) else (S, -5)
set_option maxRecDepth 100000 in
theorem P_say (hL : CLen S) (s t u : Int32) : Ctr l 2 X sgX7_say [.ref 0, .int s, .int t, .int u] (encC S ++ T) (kpQ T (ksyG S s t u)) := by
  refine Ctr.of okX7_say rfl (Nat.le_of_ble_eq_true rfl) (run_sound okX7_say noCut 200 ?_)
  exact kH (c_isSpeaker s) (by decide) (brB' (fun q => kp (if_neg (fun z => q z.1))) (fun q => kH (c_isText t) (by decide) (brB' (fun q2 => kp (if_neg (fun z => q2 z.2))) (fun q2 => kH (c_isBelow u 2) (by decide) (brB' (fun q3 => kp ((if_pos ⟨q, q2⟩).trans (if_neg q3))) (fun q3 => br (fun y => kH (c_append hL s t u y) (by decide) (kp ((if_pos ⟨q, q2⟩).trans ((if_pos q3).trans (if_pos y))))) (fun y => kp ((if_pos ⟨q, q2⟩).trans ((if_pos q3).trans (if_neg y))))))))))
def kunG (S : CS) : CS × Int32 := if 0 < S.1 134 then (cN S 134 (S.1 134 - 1), S.1 134 - 1) else (S, -3)
set_option maxRecDepth 100000 in
theorem P_unsay : Ctr l 2 X sgX7_unsay [.ref 0] (encC S ++ T) (kpQ T (kunG S)) := by
  refine Ctr.of okX7_unsay rfl (Nat.le_of_ble_eq_true rfl) (run_sound okX7_unsay noCut 200 ?_)
  refine br (fun y => ?_) (fun y => kp (if_neg y))
  have e : kunG S = (cN S 134 (S.1 134 - 1), S.1 134 - 1) := if_pos y
  rw [e]
  exact And.intro rfl (And.intro trivial ⟨rfl, rfl⟩)
def ksdG (S : CS) (k what : Int32) : Int32 := if kxP (S.1 134) k then (if kxP 3 what then partF S k what else -7) else -5
set_option maxRecDepth 100000 in
theorem P_said (hL : CLen S) (k what : Int32) : Ans l 2 X sgX7_said [.ref 0, .int k, .int what] (encC S ++ T) (ksdG S k what) := by
  refine Ctr.of okX7_said rfl (Nat.le_of_ble_eq_true rfl) (run_sound okX7_said noCut 200 ?_)
  exact kH (c_isBelow k (S.1 134)) (by decide) (brB' (fun q => ⟨rfl, some_int (if_neg q).symm⟩) (fun q => kH (c_isBelow what 3) (by decide) (brB' (fun q2 => ⟨rfl, some_int ((if_pos q).trans (if_neg q2)).symm⟩) (fun q2 => kH (c_sayingPart hL k what) (by decide) ⟨rfl, some_int ((if_pos q).trans (if_pos q2)).symm⟩))))
def kceG (S : CS) (s i v : Int32) : CS × Int32 := if kxP 4 s then (if atF (S.2 22) s = -1 then (S, -11) else if kxP (atF (S.2 23) s) i then (wrS S s i v, 1) else (S, -12)) else (S, -2)
set_option maxRecDepth 100000 in
theorem P_cell (hL : CLen S) (s i v : Int32) : Ctr l 2 X sgX7_cell [.ref 0, .int s, .int i, .int v] (encC S ++ T) (kpQ T (kceG S s i v)) := by
  refine Ctr.of okX7_cell rfl (Nat.le_of_ble_eq_true rfl) (run_sound okX7_cell noCut 200 ?_)
  exact kH (c_isBelow s 4) (by decide) (brB' (fun q => kp (if_neg q)) (fun q => kH (c_isMissing hL s) (by decide) (brB' (fun q2 => kH (c_holds hL s i) (by decide) (brB' (fun q3 => kp ((if_pos q).trans ((if_neg q2).trans (if_neg q3)))) (fun q3 => kH (c_write hL s i v) (by decide) (kp ((if_pos q).trans ((if_neg q2).trans (if_pos q3))))))) (fun q2 => kp ((if_pos q).trans (if_pos q2))))))
end KPREC
end
section
-- 97d.kprec2
/-! THE CLASS in general: images, precisely -/
section KPREC2
variable {l : Launch} {X : List (List Int32)} {S : CS} {T : AH} {hp : AH}
theorem nI_ge0 {j : Nat} (hj : j < 2 ^ 31) : (0 : Int32) ≤ nI j := by
  rw [Int32.le_iff_toInt_le, nI_toInt hj]
  have e0 : (0 : Int32).toInt = 0 := by decide
  omega
theorem putF_n {zs : List Int32} {j : Nat} {v : Int32} (hj : j < 2 ^ 31) : putF zs (nI j) v = zs.set j v := by
  unfold putF
  rw [if_pos (nI_ge0 hj), nI_clamp hj]
theorem atF_n {zs : List Int32} {j : Nat} (hj : j < 2 ^ 31) : atF zs (nI j) = zs.getD j 0 := by
  unfold atF
  rw [if_pos (nI_ge0 hj), nI_clamp hj]
theorem cp_put {xs ys : List Int32} {j : Nat} (hj : j < xs.length) (hl : xs.length = ys.length) (h31 : j < 2 ^ 31) : putF (cpH xs ys j) (nI j) (atF xs (nI j)) = cpH xs ys (j + 1) := by
  rw [putF_n h31, atF_n h31]
  exact copy_step hj hl
theorem cp_n {xs ys : List Int32} {n : Nat} (hn : xs.length = n) (hl : xs.length = ys.length) : cpH xs ys n = xs := by
  rw [← hn]
  exact cpH_all hl
/-- the rows of both talks -/
def TkL (S : CS) : Prop := (S.2 14).length = 5 ∧ (S.2 15).length = 5 ∧ (S.2 16).length = 36 ∧ (S.2 18).length = 5 ∧ (S.2 19).length = 5 ∧ (S.2 20).length = 36
set_option maxRecDepth 100000 in
set_option maxHeartbeats 1000000 in
theorem P_keep (hL : CLen S) (hT : TkL S) : Ctr l 2 X sgX4_becomeLike [.ref 17, .ref 13] (encC S ++ T) (fun h w => h = encC (kepS S (S.2 14) (S.2 15) (S.2 16)) ++ T ∧ w = none) := by
  obtain ⟨l14, l15, l16, l18, l19, l20⟩ := hT
  refine Ctr.of okX4_becomeLike rfl (Nat.le_of_ble_eq_true rfl) (run_sound okX4_becomeLike cNli 200 ?_)
  have k2 : ∀ j, j ≤ 36 → WP l (rmD 2 0 0) X sgX4_becomeLike kX4_becomeLike (fun h w => h = encC (kepS S (S.2 14) (S.2 15) (S.2 16)) ++ T ∧ w = none) 23 [some (.ref 17), some (.ref 13), some (.int (nI j))] [] (encC (cR (cR (cR S 18 (S.2 14)) 19 (S.2 15)) 20 (cpH (S.2 16) (S.2 20) j)) ++ T) 0 0 := by
    refine down ?_ (fun j hj ih => ?_)
    · rw [cp_n l16 (l16.trans l20.symm)]
      exact run_sound okX4_becomeLike cNli 200 (brT (Int32.le_refl _) (And.intro trivial (And.intro trivial (And.intro trivial ⟨rfl, rfl, rfl⟩))))
    · have hlen : (cpH (S.2 16) (S.2 20) j).length < 2 ^ 31 := by rw [cpH_len (by omega) (l16.trans l20.symm), l16]; decide
      refine run_sound okX4_becomeLike cNli 200 (brF (ge_no (n := 36) rfl hj (by decide)) (kH (c_at (xs := S.2 16) rfl (hL.lt 16)) (by decide) (kH (c_put (xs := cpH (S.2 16) (S.2 20) j) rfl rfl hlen) (by decide) ?_)))
      rw [← cp_put (by omega) (l16.trans l20.symm) (by omega), ← nI_1 j] at ih
      exact ih
  have k1 : ∀ j, j ≤ 5 → WP l (rmD 2 0 0) X sgX4_becomeLike kX4_becomeLike (fun h w => h = encC (kepS S (S.2 14) (S.2 15) (S.2 16)) ++ T ∧ w = none) 5 [some (.ref 17), some (.ref 13), some (.int (nI j))] [] (encC (cR (cR S 18 (cpH (S.2 14) (S.2 18) j)) 19 (cpH (S.2 15) (S.2 19) j)) ++ T) 0 0 := by
    refine down ?_ (fun j hj ih => ?_)
    · rw [cp_n l14 (l14.trans l18.symm), cp_n l15 (l15.trans l19.symm)]
      exact run_sound okX4_becomeLike cNli 200 (brT (Int32.le_refl _) (k2 0 (Nat.zero_le _)))
    · have ha : (cpH (S.2 14) (S.2 18) j).length ≤ 1000 := by rw [cpH_len (by omega) (l14.trans l18.symm), l14]; decide
      have hb : (cpH (S.2 15) (S.2 19) j).length ≤ 1000 := by rw [cpH_len (by omega) (l15.trans l19.symm), l15]; decide
      refine run_sound okX4_becomeLike cNli 200 (brF (ge_no (n := 5) rfl hj (by decide)) (kH (c_at (xs := S.2 14) rfl (hL.lt 14)) (by decide) (kH (c_at (xs := S.2 15) rfl (hL.lt 15)) (by decide) (kH (c_become17 (len2 hL ha hb) _ _ _) (by decide) ?_))))
      rw [← cp_put (by omega) (l14.trans l18.symm) (by omega), ← cp_put (by omega) (l15.trans l19.symm) (by omega), ← nI_1 j] at ih
      exact ih
  exact k1 0 (Nat.zero_le _)
set_option maxRecDepth 100000 in
set_option maxHeartbeats 1000000 in
theorem P_likeBack (hL : CLen S) (hT : TkL S) : Ctr l 2 X sgX4_becomeLike [.ref 13, .ref 17] (encC S ++ T) (fun h w => h = encC (bakS S (S.2 18) (S.2 19) (S.2 20)) ++ T ∧ w = none) := by
  obtain ⟨l14, l15, l16, l18, l19, l20⟩ := hT
  refine Ctr.of okX4_becomeLike rfl (Nat.le_of_ble_eq_true rfl) (run_sound okX4_becomeLike cNli 200 ?_)
  have k2 : ∀ j, j ≤ 36 → WP l (rmD 2 0 0) X sgX4_becomeLike kX4_becomeLike (fun h w => h = encC (bakS S (S.2 18) (S.2 19) (S.2 20)) ++ T ∧ w = none) 23 [some (.ref 13), some (.ref 17), some (.int (nI j))] [] (encC (cR (cR (cR S 14 (S.2 18)) 15 (S.2 19)) 16 (cpH (S.2 20) (S.2 16) j)) ++ T) 0 0 := by
    refine down ?_ (fun j hj ih => ?_)
    · rw [cp_n l20 (l20.trans l16.symm)]
      exact run_sound okX4_becomeLike cNli 200 (brT (Int32.le_refl _) (And.intro trivial (And.intro trivial (And.intro trivial ⟨rfl, rfl, rfl⟩))))
    · have hlen : (cpH (S.2 20) (S.2 16) j).length < 2 ^ 31 := by rw [cpH_len (by omega) (l20.trans l16.symm), l20]; decide
      refine run_sound okX4_becomeLike cNli 200 (brF (ge_no (n := 36) rfl hj (by decide)) (kH (c_at (xs := S.2 20) rfl (hL.lt 20)) (by decide) (kH (c_put (xs := cpH (S.2 20) (S.2 16) j) rfl rfl hlen) (by decide) ?_)))
      rw [← cp_put (by omega) (l20.trans l16.symm) (by omega), ← nI_1 j] at ih
      exact ih
  have k1 : ∀ j, j ≤ 5 → WP l (rmD 2 0 0) X sgX4_becomeLike kX4_becomeLike (fun h w => h = encC (bakS S (S.2 18) (S.2 19) (S.2 20)) ++ T ∧ w = none) 5 [some (.ref 13), some (.ref 17), some (.int (nI j))] [] (encC (cR (cR S 14 (cpH (S.2 18) (S.2 14) j)) 15 (cpH (S.2 19) (S.2 15) j)) ++ T) 0 0 := by
    refine down ?_ (fun j hj ih => ?_)
    · rw [cp_n l18 (l18.trans l14.symm), cp_n l19 (l19.trans l15.symm)]
      exact run_sound okX4_becomeLike cNli 200 (brT (Int32.le_refl _) (k2 0 (Nat.zero_le _)))
    · have ha : (cpH (S.2 18) (S.2 14) j).length ≤ 1000 := by rw [cpH_len (by omega) (l18.trans l14.symm), l18]; decide
      have hb : (cpH (S.2 19) (S.2 15) j).length ≤ 1000 := by rw [cpH_len (by omega) (l19.trans l15.symm), l19]; decide
      refine run_sound okX4_becomeLike cNli 200 (brF (ge_no (n := 5) rfl hj (by decide)) (kH (c_at (xs := S.2 18) rfl (hL.lt 18)) (by decide) (kH (c_at (xs := S.2 19) rfl (hL.lt 19)) (by decide) (kH (c_become13 (len2 hL ha hb) _ _ _) (by decide) ?_))))
      rw [← cp_put (by omega) (l18.trans l14.symm) (by omega), ← cp_put (by omega) (l19.trans l15.symm) (by omega), ← nI_1 j] at ih
      exact ih
  exact k1 0 (Nat.zero_le _)
set_option maxRecDepth 100000 in
theorem P_image (hL : CLen S) (hT : TkL S) : Ctr l 3 X sgX7_image [.ref 0] (encC S ++ T) (kpQ T (cN (kepS S (S.2 14) (S.2 15) (S.2 16)) 8 1, S.1 134)) := by
  refine Ctr.of okX7_image rfl (Nat.le_of_ble_eq_true rfl) (run_sound okX7_image noCut 200 ⟨2, _, by decide, P_keep hL hT, ?_⟩)
  rintro hp' w ⟨rfl, rfl⟩
  exact And.intro (Or.inr rfl) ⟨rfl, rfl⟩
def kbkG (S : CS) : CS × Int32 := if S.1 8 = 0 then (S, -3) else (bakS S (S.2 18) (S.2 19) (S.2 20), S.1 174)
set_option maxRecDepth 100000 in
theorem P_back (hL : CLen S) (hT : TkL S) : Ctr l 3 X sgX7_back [.ref 0] (encC S ++ T) (kpQ T (kbkG S)) := by
  refine Ctr.of okX7_back rfl (Nat.le_of_ble_eq_true rfl) (run_sound okX7_back noCut 200 (br (fun y => kp (if_pos y)) (fun y => ⟨2, _, by decide, P_likeBack hL hT, ?_⟩)))
  rintro hp' w ⟨rfl, rfl⟩
  exact kp (if_neg y)
end KPREC2
end
section
-- 97e.rel
/-! BOTH SIDES ALIKE: the talk and its image -/
section REL
variable {S : CS} {M : MS} {nt ns nk ta : Nat}
def RTk (S : CS) (M : MS) : Prop := S.1 133 = M.1 0 ∧ S.1 134 = M.1 3 ∧ S.1 135 = M.1 10 ∧ S.2 14 = M.2.1 1 ∧ S.2 15 = M.2.1 2 ∧ S.2 16 = M.2.1 4
def RIm (S : CS) (M : MS) : Prop := S.1 8 = M.1 11 ∧ S.1 173 = M.1 12 ∧ S.1 174 = M.1 13 ∧ S.1 175 = M.1 14 ∧ M.2.1 15 = S.2 18 ++ S.2 19 ∧ S.2 20 = M.2.1 16
theorem xp_iff {n : Nat} (hn : n < 2 ^ 31) {s : Int32} : kxP (nI n) s ↔ tP n s := by
  refine and_congr_right (fun h0 => ?_)
  cases n with
  | zero =>
    constructor
    · intro h
      exact absurd h (Int32.not_lt.mpr h0)
    · intro h
      have g0 := Int32.le_iff_toInt_le.mp h0
      have g1 := Int32.le_iff_toInt_le.mp h
      have e0 : (0 : Int32).toInt = 0 := by decide
      have e1 : (nI 0 - 1).toInt = -1 := by decide
      omega
  | succ n =>
    rw [nI_pred, Int32.lt_iff_toInt_lt, Int32.le_iff_toInt_le, nI_toInt hn, nI_toInt (by omega)]
    omega
theorem so_iff {k m : Int32} : ksoP k m ↔ soP k m := and_congr_left (fun _ => and_congr_right (fun _ => ltle (by decide)))
theorem atF_tP {n : Nat} {s : Int32} (h : tP n s) (xs : List Int32) : atF xs s = xs.getD s.toNatClampNeg 0 := if_pos h.1
theorem told_rel (h : MInv M nt ns nk) (r : RTk S M) (s what : Int32) : ktdG S s what = tdG M ns s what := by
  obtain ⟨r0, r3, r10, r1, r2, r4⟩ := r
  have h0 := h.2.2.2.1
  unfold ktdG tdG
  rw [r0, h0.1, r1, r2]
  by_cases q : tP ns s
  · rw [if_pos ((xp_iff (by omega)).mpr q), if_pos q, atF_tP q, atF_tP q]
  · rw [if_neg (fun z => q ((xp_iff (by omega)).mp z)), if_neg q]
theorem speaker_rel (h : MInv M nt ns nk) (r : RTk S M) (ri : RIm S M) (k m : Int32) : RTk (kspG S k m).1 (spG M ns k m).1 ∧ RIm (kspG S k m).1 (spG M ns k m).1 ∧ (kspG S k m).2 = (spG M ns k m).2 := by
  have rr := r
  obtain ⟨r0, r3, r10, r1, r2, r4⟩ := r
  obtain ⟨h0, h5⟩ := h.2.2.2.1
  have e0 : S.1 133 = nI ns := r0.trans h0
  unfold kspG spG
  by_cases q : soP k m
  · rw [if_pos (so_iff.mpr q), if_pos q]
    by_cases e : ns = 5
    · rw [if_neg (by rw [e0, e]; decide), if_pos e]
      exact ⟨rr, ri, rfl⟩
    · rw [if_pos (by rw [e0]; exact nI_lt (b := 5) (by omega) (by decide)), if_neg e]
      refine ⟨⟨?_, r3, r10, ?_, ?_, r4⟩, ri, e0⟩
      · show S.1 133 + 1 = nI (ns + 1)
        rw [e0, nI_1]
      · show putF (S.2 14) (S.1 133) k = (M.2.1 1).set ns k
        rw [e0, putF_n (by omega), r1]
      · show putF (S.2 15) (S.1 133) m = (M.2.1 2).set ns m
        rw [e0, putF_n (by omega), r2]
  · rw [if_neg (fun z => q (so_iff.mp z)), if_neg q]
    exact ⟨rr, ri, rfl⟩
theorem turn_rel (h : MInv M nt ns nk) (r : RTk S M) (ri : RIm S M) (s k m : Int32) : RTk (ktrG S s k m).1 (trG M ns s k m).1 ∧ RIm (ktrG S s k m).1 (trG M ns s k m).1 ∧ (ktrG S s k m).2 = (trG M ns s k m).2 := by
  have rr := r
  obtain ⟨r0, r3, r10, r1, r2, r4⟩ := r
  obtain ⟨h0, h5⟩ := h.2.2.2.1
  unfold ktrG trG
  rw [r0.trans h0]
  by_cases q : tP ns s
  · rw [if_pos ((xp_iff (by omega)).mpr q), if_pos q]
    by_cases q2 : soP k m
    · rw [if_pos (so_iff.mpr q2), if_pos q2]
      refine ⟨⟨r0, r3, r10, ?_, ?_, r4⟩, ri, ?_⟩
      · show putF (S.2 14) s k = (M.2.1 1).set s.toNatClampNeg k
        unfold putF
        rw [if_pos q.1, r1]
      · show putF (S.2 15) s m = (M.2.1 2).set s.toNatClampNeg m
        unfold putF
        rw [if_pos q.1, r2]
      · show atF (S.2 14) s = (M.2.1 1).getD s.toNatClampNeg 0
        rw [atF_tP q, r1]
    · rw [if_neg (fun z => q2 (so_iff.mp z)), if_neg q2]
      exact ⟨rr, ri, rfl⟩
  · rw [if_neg (fun z => q ((xp_iff (by omega)).mp z)), if_neg q]
    exact ⟨rr, ri, rfl⟩
theorem image_rel (r : RTk S M) : RTk (cN (kepS S (S.2 14) (S.2 15) (S.2 16)) 8 1) (imM M) ∧ RIm (cN (kepS S (S.2 14) (S.2 15) (S.2 16)) 8 1) (imM M) ∧ S.1 134 = M.1 3 := by
  obtain ⟨r0, r3, r10, r1, r2, r4⟩ := r
  refine ⟨⟨r0, r3, r10, r1, r2, r4⟩, ⟨rfl, r0, r3, r10, ?_, r4⟩, r3⟩
  show M.2.1 1 ++ M.2.1 2 = S.2 14 ++ S.2 15
  rw [r1, r2]
theorem back_rel (r : RTk S M) (ri : RIm S M) (hT : TkL S) : RTk (kbkG S).1 (bkG M).1 ∧ RIm (kbkG S).1 (bkG M).1 ∧ (kbkG S).2 = (bkG M).2 := by
  have rr := ri
  obtain ⟨i8, i0, i3, i10, ik, i4⟩ := ri
  unfold kbkG bkG
  rw [i8]
  by_cases q : M.1 11 = 0
  · rw [if_pos q, if_pos q]
    exact ⟨r, rr, rfl⟩
  · rw [if_neg q, if_neg q]
    refine ⟨⟨i0, i3, i10, ?_, ?_, i4⟩, ⟨i8, i0, i3, i10, ik, i4⟩, i3⟩
    · show S.2 18 = (M.2.1 15).take 5
      rw [ik, ← hT.2.2.2.1, List.take_left]
    · show S.2 19 = (M.2.1 15).drop 5
      rw [ik, ← hT.2.2.2.1, List.drop_left]
end REL
end
section
-- 97f.rel2
/-! BOTH SIDES ALIKE: sayings, the law -/
section REL2
variable {S : CS} {M : MS} {nt ns nk ta : Nat}
theorem x2_iff {u : Int32} : kxP 2 u ↔ p1P u := and_congr_right (fun _ => ltle (by decide))
theorem x3_iff {u : Int32} : kxP 3 u ↔ p2P u := and_congr_right (fun _ => ltle (by decide))
theorem three_n (n : Nat) : Int32.ofInt 3 * nI n = nI (3 * n) := nI_mul 3 n
theorem say_rel (h : MInv M nt ns nk) (r : RTk S M) (ri : RIm S M) (e9 : S.1 93 = M.1 9) (s t u : Int32) : RTk (ksyG S s t u).1 (syG M nt ns nk s t u).1 ∧ RIm (ksyG S s t u).1 (syG M nt ns nk s t u).1 ∧ (ksyG S s t u).2 = (syG M nt ns nk s t u).2 := by
  have rr := r
  obtain ⟨r0, r3, r10, r1, r2, r4⟩ := r
  obtain ⟨h0, h5⟩ := h.2.2.2.1
  obtain ⟨h9, h91, h96⟩ := h.2.2.1
  obtain ⟨h3, h12⟩ := h.2.2.2.2.1
  have e0 := r0.trans h0
  have e9 := e9.trans h9
  have e3 := r3.trans h3
  unfold ksyG syG
  by_cases q : tP ns s ∧ tP nt t
  · rw [if_pos (show kxP (S.1 133) s ∧ kxP (S.1 93) t by rw [e0, e9]; exact ⟨(xp_iff (by omega)).mpr q.1, (xp_iff (by omega)).mpr q.2⟩), if_pos q]
    by_cases q2 : p1P u
    · rw [if_pos (x2_iff.mpr q2), if_pos q2]
      by_cases e : nk = 12
      · rw [if_neg (by rw [e3, e]; decide), if_pos e]
        exact ⟨rr, ri, rfl⟩
      · rw [if_pos (by rw [e3]; exact nI_lt (b := 12) (by omega) (by decide)), if_neg e]
        refine ⟨⟨r0, ?_, r10, r1, r2, ?_⟩, ri, ?_⟩
        · show S.1 134 + Int32.ofInt 1 = nI (nk + 1)
          rw [e3]
          exact nI_1 nk
        · show putF (putF (putF (S.2 16) (Int32.ofInt 3 * S.1 134) s) (Int32.ofInt 3 * S.1 134 + Int32.ofInt 1) t) (Int32.ofInt 3 * S.1 134 + Int32.ofInt 2) u = (((M.2.1 4).set (3 * nk) s).set (3 * nk + 1) t).set (3 * nk + 2) u
          rw [e3, three_n, show nI (3 * nk) + Int32.ofInt 1 = nI (3 * nk + 1) from nI_add _ 1, show nI (3 * nk) + Int32.ofInt 2 = nI (3 * nk + 2) from nI_add _ 2, putF_n (by omega), putF_n (by omega), putF_n (by omega), r4]
        · show S.1 134 + 1 - 1 = nI nk
          rw [e3]
          exact Int32.add_sub_cancel _ _
    · rw [if_neg (fun z => q2 (x2_iff.mp z)), if_neg q2]
      exact ⟨rr, ri, rfl⟩
  · rw [if_neg (show ¬ (kxP (S.1 133) s ∧ kxP (S.1 93) t) by rw [e0, e9]; exact fun z => q ⟨(xp_iff (by omega)).mp z.1, (xp_iff (by omega)).mp z.2⟩), if_neg q]
    exact ⟨rr, ri, rfl⟩
theorem unsay_rel (h : MInv M nt ns nk) (r : RTk S M) (ri : RIm S M) : RTk (kunG S).1 (if M.1 3 = Int32.ofInt 0 then M else mN M 3 (M.1 3 - Int32.ofInt 1)) ∧ RIm (kunG S).1 (if M.1 3 = Int32.ofInt 0 then M else mN M 3 (M.1 3 - Int32.ofInt 1)) ∧ (kunG S).2 = (if M.1 3 = Int32.ofInt 0 then Int32.ofInt (-3) else M.1 3 - Int32.ofInt 1) := by
  have rr := r
  obtain ⟨r0, r3, r10, r1, r2, r4⟩ := r
  obtain ⟨h3, h12⟩ := h.2.2.2.2.1
  unfold kunG
  rw [r3]
  by_cases q : M.1 3 = Int32.ofInt 0
  · rw [if_neg (by rw [q]; decide), if_pos q, if_pos q]
    exact ⟨rr, ri, rfl⟩
  · have hk : 1 ≤ nk := Nat.pos_of_ne_zero (fun z => q (by rw [h3, z]; rfl))
    rw [if_pos (by rw [h3]; exact nI_lt (a := 0) (by omega) (by omega)), if_neg q, if_neg q]
    exact ⟨⟨r0, rfl, r10, r1, r2, r4⟩, ri, rfl⟩
theorem force_rel (r : RTk S M) (ri : RIm S M) (h : MInv M nt ns nk) (e9 : S.1 93 = M.1 9) (v : Int32) : RTk (kfoG S v).1 (if frP M v then mN M 10 v else M) ∧ RIm (kfoG S v).1 (if frP M v then mN M 10 v else M) ∧ (kfoG S v).2 = (if frP M v then M.1 10 else Int32.ofInt (-2)) := by
  have rr := r
  obtain ⟨r0, r3, r10, r1, r2, r4⟩ := r
  obtain ⟨h9, h91, h96⟩ := h.2.2.1
  have e : kxP (S.1 93) v ↔ frP M v := by
    rw [e9]
    show kxP (M.1 9) v ↔ inP v (Int32.ofInt 0) (M.1 9 - Int32.ofInt 1)
    rw [h9]
    exact xp_iff (by omega)
  unfold kfoG
  by_cases q : frP M v
  · rw [if_pos (e.mpr q), if_pos q, if_pos q]
    exact ⟨⟨r0, r3, rfl, r1, r2, r4⟩, ri, r10⟩
  · rw [if_neg (fun z => q (e.mp z)), if_neg q, if_neg q]
    exact ⟨rr, ri, rfl⟩
end REL2
end
section
-- 97g.rel3
/-! BOTH SIDES ALIKE: what was said; sheets' cells -/
section REL3
variable {S : CS} {M : MS} {nt ns nk ta : Nat}
theorem said_rel (h : MInv M nt ns nk) (r : RTk S M) (k what : Int32) : ksdG S k what = sdG M nk k what := by
  obtain ⟨r0, r3, r10, r1, r2, r4⟩ := r
  obtain ⟨h3, h12⟩ := h.2.2.2.2.1
  unfold ksdG sdG
  rw [r3.trans h3]
  by_cases q : tP nk k
  · rw [if_pos ((xp_iff (by omega)).mpr q), if_pos q]
    by_cases q2 : p2P what
    · rw [if_pos (x3_iff.mpr q2), if_pos q2]
      obtain ⟨a, ha, rfl⟩ := inN (by omega) q
      rcases in02 q2 with rfl | rfl | rfl
      · show atF (S.2 16) (Int32.ofInt 3 * nI a + 0) = _
        rw [r4, three_n, show nI (3 * a) + 0 = nI (3 * a + 0) from nI_add _ 0, atF_n (by omega), nI_clamp (by omega)]
        rfl
      · show atF (S.2 16) (Int32.ofInt 3 * nI a + 1) = _
        rw [r4, three_n, show nI (3 * a) + 1 = nI (3 * a + 1) from nI_add _ 1, atF_n (by omega), nI_clamp (by omega)]
        rfl
      · show atF (S.2 16) (Int32.ofInt 3 * nI a + 2) = _
        rw [r4, three_n, show nI (3 * a) + 2 = nI (3 * a + 2) from nI_add _ 2, atF_n (by omega), nI_clamp (by omega)]
        rfl
    · rw [if_neg (fun z => q2 (x3_iff.mp z)), if_neg q2]
  · rw [if_neg (fun z => q ((xp_iff (by omega)).mp z)), if_neg q]
/-- the sheets -/
def RSh (S : CS) (M : MS) : Prop := S.2 22 = M.2.1 17 ∧ S.2 23 = M.2.1 18 ∧ S.2 24 = M.2.1 19
theorem x4_iff {u : Int32} : kxP 4 u ↔ p3P u := and_congr_right (fun _ => ltle (by decide))
theorem cell_rel (hs : ShOk M) (r : RSh S M) (s i v : Int32) : RSh (kceG S s i v).1 (ceG M s i v).1 ∧ (kceG S s i v).2 = (ceG M s i v).2 := by
  have rr := r
  obtain ⟨r1, r2, r3⟩ := r
  unfold kceG ceG
  by_cases q : p3P s
  · rw [if_pos (x4_iff.mpr q), if_pos q]
    obtain ⟨a, ha, rfl⟩ := in03n q
    obtain ⟨hm, z, hz, ez⟩ := hs a ha
    rw [r1, r2, atF_n (by omega), atF_n (by omega), nI_clamp (by omega), ez]
    by_cases q2 : (M.2.1 17).getD a 0 = -1
    · rw [if_pos q2, if_pos q2]
      exact ⟨rr, rfl⟩
    · rw [if_neg q2, if_neg q2]
      by_cases q3 : tP z i
      · rw [if_pos ((xp_iff (by omega)).mpr q3), if_pos (show (0 : Int32) ≤ i ∧ i ≤ nI z - 1 from q3)]
        obtain ⟨b, hb, rfl⟩ := inN (by omega) q3
        refine ⟨⟨r1, r2, ?_⟩, rfl⟩
        show putF (S.2 24) (nI a * Int32.ofInt 40 + nI b) (wrV S (nI a) v) = (M.2.1 19).set (40 * a + (nI b).toNatClampNeg) (ceV ((M.2.1 17).getD a 0) v)
        have e : nI a * Int32.ofInt 40 + nI b = nI (40 * a + b) := by rw [show nI a * Int32.ofInt 40 = nI (a * 40) from nI_mul a 40, nI_add, Nat.mul_comm]
        rw [e, putF_n (by omega), nI_clamp (by omega), r3]
        unfold wrV ceV
        rw [r1, atF_n (by omega)]
      · rw [if_neg (fun y => q3 ((xp_iff (by omega)).mp y)), if_neg (show ¬ ((0 : Int32) ≤ i ∧ i ≤ nI z - 1) from q3)]
        exact ⟨rr, rfl⟩
  · rw [if_neg (fun z => q (x4_iff.mp z)), if_neg q]
    exact ⟨rr, rfl⟩
end REL3
end
section
-- 97h.rel4
/-! BOTH SIDES ALIKE: sheets made -/
section REL4
variable {l : Launch} {X : List (List Int32)} {S : CS} {T : AH} {M : MS} {nt ns nk ta : Nat}
def kmkS (S : CS) (a : Nat) (sort n : Int32) : CS := cR (cR (cR S 22 ((S.2 22).set a sort)) 23 ((S.2 23).set a n)) 24 (zeC (fun _ => 0) (S.2 24) a 40)
set_option maxRecDepth 100000 in
theorem P_make (hL : CLen S) {a : Nat} (ha : a < 4) (sort n : Int32) : Ctr l 1 X sgX3_make [.ref 21, .int (nI a), .int sort, .int n] (encC S ++ T) (fun h w => h = encC (kmkS S a sort n) ++ T ∧ w = none) := by
  have h24 := hL.lt 24
  have e22 : putF (S.2 22) (nI a) sort = (S.2 22).set a sort := putF_n (by omega)
  have e23 : putF (S.2 23) (nI a) n = (S.2 23).set a n := putF_n (by omega)
  unfold kmkS
  rw [← e22, ← e23]
  refine Ctr.of okX3_make rfl (Nat.le_of_ble_eq_true rfl) (run_sound okX3_make (fun i => Nat.beq i 12) 200 ?_)
  have key : ∀ j, j ≤ 40 → WP l (rmD 1 0 0) X sgX3_make kX3_make (fun h w => h = encC (cR (cR (cR S 22 (putF (S.2 22) (nI a) sort)) 23 (putF (S.2 23) (nI a) n)) 24 (zeC (fun _ => 0) (S.2 24) a 40)) ++ T ∧ w = none) 12 [some (.ref 21), some (.int (nI a)), some (.int sort), some (.int n), some (.int (nI j))] [] (encC (cR (cR (cR S 22 (putF (S.2 22) (nI a) sort)) 23 (putF (S.2 23) (nI a) n)) 24 (zeC (fun _ => 0) (S.2 24) a j)) ++ T) 0 0 := by
    refine down ?_ (fun j hj ih => ?_)
    · exact run_sound okX3_make (fun i => Nat.beq i 12) 200 (brT (Int32.le_refl _) ⟨rfl, rfl, rfl⟩)
    · refine run_sound okX3_make (fun i => Nat.beq i 12) 200 (brF (ge_no (n := 40) rfl hj (by decide)) (kH (c_put (xs := zeC (fun _ => 0) (S.2 24) a j) rfl rfl (by rw [zeC_len]; exact h24)) (by decide) ?_))
      have e : nI a * Int32.ofInt 40 + nI j = nI (40 * a + j) := by rw [show nI a * Int32.ofInt 40 = nI (a * 40) from nI_mul a 40, nI_add, Nat.mul_comm]
      have e2 : putF (zeC (fun _ => 0) (S.2 24) a j) (nI a * Int32.ofInt 40 + nI j) 0 = zeC (fun _ => 0) (S.2 24) a (j + 1) := by rw [e, putF_n (by omega)]; rfl
      rw [← e2, ← nI_1 j] at ih
      exact ih
  exact kH (c_put (xs := S.2 22) rfl rfl (hL.lt 22)) (by decide) (kH (c_put (xs := S.2 23) rfl rfl (hL.lt 23)) (by decide) (key 0 (Nat.zero_le _)))
def kshG (S : CS) (s sort n : Int32) : CS × Int32 := if p3P s ∧ m2P sort ∧ (sort = -1 ∨ n ≤ 40) then (if ¬ sort = -1 ∧ n < 0 then (S, -14) else (kmkS S s.toNatClampNeg sort (if sort = -1 then 0 else n), 1)) else (S, -2)
set_option maxRecDepth 100000 in
theorem P_sheet (hL : CLen S) (s sort n : Int32) : Ctr l 2 X sgX7_sheet [.ref 0, .int s, .int sort, .int n] (encC S ++ T) (kpQ T (kshG S s sort n)) := by
  refine Ctr.of okX7_sheet rfl (Nat.le_of_ble_eq_true rfl) (run_sound okX7_sheet noCut 200 ?_)
  refine kH (k_B s 4 3 (by decide)) (by decide) (brB' (fun q => kp (if_neg (fun z => q z.1))) (fun q => br (fun h1 => kp (if_neg (fun z => absurd h1 (Int32.not_lt.mpr z.2.1.1)))) (fun h1 => br (fun h2 => ?_) (fun h2 => kp (if_neg (fun z => h2 z.2.1.2))))))
  have q2 : m2P sort := ⟨Int32.not_lt.mp h1, h2⟩
  obtain ⟨a, ha, rfl⟩ := in03n q
  refine br (fun h3 => ⟨1, _, by decide, P_make hL ha _ _, ?_⟩) (fun h3 => br (fun h4 => br (fun h5 => ⟨1, _, by decide, P_make hL ha _ _, ?_⟩) (fun h5 => kp ?_)) (fun h4 => kp ?_))
  · rintro hp' w ⟨rfl, rfl⟩
    have h3 : sort = -1 := h3
    refine kp (((if_pos ⟨q, q2, Or.inl h3⟩).trans (if_neg (fun z => z.1 h3))).trans ?_)
    rw [nI_clamp (by omega), if_pos h3, h3]
    rfl
  · rintro hp' w ⟨rfl, rfl⟩
    have h3 : ¬ sort = -1 := h3
    refine kp (((if_pos ⟨q, q2, Or.inr h4⟩).trans (if_neg (fun z => absurd z.2 (Int32.not_lt.mpr h5)))).trans ?_)
    rw [nI_clamp (by omega), if_neg h3]
    rfl
  · exact (if_pos ⟨q, q2, Or.inr h4⟩).trans (if_pos ⟨h3, Int32.not_le.mp h5⟩)
  · exact if_neg (fun z => z.2.2.elim h3 h4)
theorem kmk24 (S : CS) (a : Nat) (sort n : Int32) : (kmkS S a sort n).2 24 = zeC (fun _ => 0) (S.2 24) a 40 := by
  unfold kmkS
  generalize zeC (fun _ => 0) (S.2 24) a 40 = c
  rfl
theorem shM19 (M : MS) (a : Nat) (sort n : Int32) : (shM M a sort n).2.1 19 = zeC (fun _ => 0) (M.2.1 19) a 40 := by
  unfold shM
  generalize zeC (fun _ => 0) (M.2.1 19) a 40 = c
  rfl
theorem sheet_rel (r : RSh S M) (s sort n : Int32) : RSh (kshG S s sort n).1 (shG M s sort n).1 ∧ (kshG S s sort n).2 = (shG M s sort n).2 := by
  have rr := r
  obtain ⟨r1, r2, r3⟩ := r
  unfold kshG shG
  by_cases q : p3P s ∧ m2P sort ∧ (sort = -1 ∨ n ≤ 40)
  · rw [if_pos q, if_pos q]
    by_cases q2 : ¬ sort = -1 ∧ n < 0
    · rw [if_pos q2, if_pos q2]
      exact ⟨rr, rfl⟩
    · rw [if_neg q2, if_neg q2]
      refine ⟨⟨?_, ?_, ?_⟩, rfl⟩
      · show (S.2 22).set s.toNatClampNeg sort = (M.2.1 17).set s.toNatClampNeg sort
        rw [r1]
      · show (S.2 23).set s.toNatClampNeg (if sort = -1 then 0 else n) = (M.2.1 18).set s.toNatClampNeg (if sort = -1 then 0 else n)
        rw [r2]
      · exact (kmk24 S _ _ _).trans ((congrArg (fun c => zeC (fun _ => 0) c s.toNatClampNeg 40) r3).trans (shM19 M _ _ _).symm)
  · rw [if_neg q, if_neg q]
    exact ⟨rr, rfl⟩
end REL4
end
