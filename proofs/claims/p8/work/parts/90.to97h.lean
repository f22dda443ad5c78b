/-! parts 90 .. 97h, joined -/
section
-- 90.rinv
/-! THE REFERENCE in general: what always holds of it is kept -/
section RINV
variable {l : Launch} {X : List (List Int32)} {S : CS} {M : MS} {hp : AH} {nt ns nk : Nat}
theorem txL_le {ws tp : List Int32} {t tx : Nat} : ∀ (m p : Nat) (T : TS), T.2.1 ≤ t → T.2.2.2.1.length ≤ T.2.1 →
    (txL ws tp t tx m p T).2.1 ≤ t ∧ (txL ws tp t tx m p T).2.2.2.1.length ≤ (txL ws tp t tx m p T).2.1 ∧ (txL ws tp t tx m p T).2.2.2.2.length = T.2.2.2.2.length ∧ ∀ j, j < 4 * tx → (txL ws tp t tx m p T).2.2.2.2.getD j 0 = T.2.2.2.2.getD j 0
  | 0, _, T, h1, h2 => ⟨h1, h2, rfl, fun _ _ => rfl⟩
  | m + 1, p, T, h1, h2 => by
    have hsp := nxt_spec ws tp h1
    rw [txL]
    split
    · split
      · have hE := er_spec ws tp t (t + 1) true true (nxtF ws tp t T.2.1).2.1 ([], Int32.ofInt 0, T.2.2.2.1) hsp.1 (by simp [ptL]; omega)
        have hp2 : (erF ws tp t (t + 1) true true (nxtF ws tp t T.2.1).2.1 ([], Int32.ofInt 0, T.2.2.2.1)).2.2.1.length + (erF ws tp t (t + 1) true true (nxtF ws tp t T.2.1).2.1 ([], Int32.ofInt 0, T.2.2.2.1)).2.2.2.2.length ≤ (erF ws tp t (t + 1) true true (nxtF ws tp t T.2.1).2.1 ([], Int32.ofInt 0, T.2.2.2.1)).2.1.2.1 := hE.2
        have hp1 : (erF ws tp t (t + 1) true true (nxtF ws tp t T.2.1).2.1 ([], Int32.ofInt 0, T.2.2.2.1)).2.1.2.1 ≤ t := hE.1
        generalize erF ws tp t (t + 1) true true (nxtF ws tp t T.2.1).2.1 ([], Int32.ofInt 0, T.2.2.2.1) = E at hp1 hp2
        obtain ⟨i1, i2, i3, i4⟩ := txL_le m (p + 1) (E.1, E.2.1.2.1, nI E.2.1.1, E.2.2.2.2, T.2.2.2.2.set (4 * tx + p) (nI T.2.2.2.1.length)) hp1 (by show E.2.2.2.2.length ≤ E.2.1.2.1; omega)
        exact ⟨i1, i2, i3.trans List.length_set, fun j hj => (i4 j hj).trans (getD_set_ne (by omega))⟩
      · exact ⟨hsp.1, Nat.le_trans h2 hsp.2.1, List.length_set, fun j hj => getD_set_ne (by omega)⟩
    · exact ⟨h1, h2, rfl, fun _ _ => rfl⟩
/-- the image -/
def ImOk (M : MS) (nt : Nat) : Prop := M.1 11 = 0 ∨ ∃ ns nk r : Nat, M.1 12 = nI ns ∧ ns ≤ 5 ∧ M.1 13 = nI nk ∧ nk ≤ 12 ∧ M.1 14 = nI r ∧ r < nt ∧ (∀ i, i < 5 → Kd ((M.2.1 15).getD i 0) ((M.2.1 15).getD (5 + i) 0)) ∧ TkOk (M.2.1 16) nt nk
theorem TkOk.mono {xs : List Int32} {nt nt' nk : Nat} (h : TkOk xs nt nk) (q : nt ≤ nt') : TkOk xs nt' nk := fun k hk => by
  obtain ⟨s, t, u, e1, e2, e3, b1, b2, b3⟩ := h k hk
  exact ⟨s, t, u, e1, e2, e3, b1, by omega, b3⟩
theorem ImOk.mono {nt' : Nat} (h : ImOk M nt) (q : nt ≤ nt') : ImOk M nt' := by
  rcases h with h | ⟨a, b, r, h1, h2, h3, h4, h5, h6, h7, h8⟩
  · exact Or.inl h
  · exact Or.inr ⟨a, b, r, h1, h2, h3, h4, h5, by omega, h7, h8.mono q⟩
/-- what always holds of the reference -/
def RInv (M : MS) (nt ns nk ta : Nat) : Prop := MInv M nt ns nk ∧ (M.1 6 = nI ta ∧ ta ≤ 160) ∧ ShOk M ∧ ImOk M nt
theorem RInv.sc {ta : Nat} {z : SZ} (h : RInv M nt ns nk ta) (hz : ScOk z) : RInv (sc M z) nt ns nk ta := ⟨h.1.sc hz, h.2⟩
abbrev RI (M : MS) : Prop := ∃ nt ns nk ta, RInv M nt ns nk ta
/-- what is kept: some state of the reference in which all this holds -/
abbrev rkQ (S : CS) : AH → Option Value → Prop := fun h w => (∃ M, RI M ∧ h = mk S M) ∧ ∃ v : Int32, w = some (.int v)
abbrev rkL (S : CS) : AH → Option Value → Prop := fun h w => (∃ M, RI M ∧ h = mk S M) ∧ ∃ v : Int64, w = some (.long v)
set_option maxRecDepth 100000 in
set_option maxHeartbeats 1000000 in
theorem r_text {ta : Nat} (h : RInv M nt ns nk ta) (h6 : nt < 6) : Ctr l 4 X sgX8_text [.ref 27] (mk S M) (rkQ S) := by
  obtain ⟨hm, ⟨hta, hta2⟩, hs, hi⟩ := h
  obtain ⟨hM, hO, ⟨h9, h91, h96⟩, h0, h3, ⟨r, hr, er⟩, hk5, htk⟩ := hm
  refine (m_text hM hta hta2 h9 h6).weak ?_
  rintro hp w ⟨⟨a, cd, hd, hm, op, tk, v, ho, hhd, rfl⟩, rfl⟩
  refine ⟨?_, _, rfl⟩
  have hle := txL_le (ws := M.2.1 25) (tp := M.2.1 5) (tx := nt) 3 0 (true, 0, M.1 22, [], M.2.1 8) (Nat.zero_le ta) (Nat.zero_le 0)
  have h24 : (M.2.1 8).length = 24 := hM.2.2.2.2.2.1
  have h7 : (M.2.1 7).length = 1200 := hM.2.2.2.2.1
  have more := fun (M' : MS) (h : AllOk M nt) (hT : (txL (M.2.1 25) (M.2.1 5) ta nt 3 0 (true, 0, M.1 22, [], M.2.1 8)).1 = true) => h.more (M' := M') (tx := nt) (t := ta) h6 hta2 h7 h24 hT
  have hE : (txE (M.2.1 25) (M.2.1 5) ta (txL (M.2.1 25) (M.2.1 5) ta nt 3 0 (true, 0, M.1 22, [], M.2.1 8))).1 = true → (txL (M.2.1 25) (M.2.1 5) ta nt 3 0 (true, 0, M.1 22, [], M.2.1 8)).1 = true := by
    intro q
    cases q2 : (txL (M.2.1 25) (M.2.1 5) ta nt 3 0 (true, 0, M.1 22, [], M.2.1 8)).1 with
    | true => rfl
    | false =>
      rw [txE, if_neg (by rw [q2]; decide)] at q
      exact absurd q Bool.false_ne_true
  generalize txL (M.2.1 25) (M.2.1 5) ta nt 3 0 (true, 0, M.1 22, [], M.2.1 8) = W at hle more ho hE
  generalize txE (M.2.1 25) (M.2.1 5) ta W = e at hE
  obtain ⟨i1, i2, i3, i4⟩ := hle
  have i3 : W.2.2.2.2.length = 24 := i3.trans h24
  have i4 : ∀ j, j < 4 * nt → W.2.2.2.2.getD j 0 = (M.2.1 8).getD j 0 := i4
  obtain ⟨M', eM⟩ : ∃ M', mR (pM (xM (mN (mN M 6 (Int32.ofInt 0)) 9 (if e.1 = true then nI (nt + 1) else nI nt)) a e.2 tk v) cd hd hm op (nI W.2.2.2.1.length)) 8 (W.2.2.2.2.set (4 * nt + 3) (nI W.2.2.2.1.length)) = M' := ⟨_, rfl⟩
  have hML : MLen M' := by
    subst eM
    obtain ⟨a1, a2, a3, a4, a5, a6, a7, a8, a9, a10, a11, a12, a13, a14, a15, a16, a17, a18⟩ := hM
    exact ⟨a1, a2, a3, a4, ho.1, (show (W.2.2.2.2.set (4 * nt + 3) (nI W.2.2.2.1.length)).length = 24 by rw [List.length_set]; exact i3), a7, a8, a9, a10, a11, a12, a13, hhd, a15, a16, a17, a18⟩
  have keep : AllOk M' nt := fun t ht p hp => by
    subst eM
    refine (hO t ht p hp).of_eq (fun j hj => ?_) hp (ho.1.trans h7.symm) (by rw [h7]; omega) (fun j hj => ho.2.1 j (by omega))
    show (W.2.2.2.2.set (4 * nt + 3) (nI W.2.2.2.1.length)).getD j 0 = _
    rw [getD_set_ne (by omega)]
    exact i4 j (by omega)
  cases he : e.1 with
  | true =>
    refine ⟨M', ⟨nt + 1, ns, nk, 0, ⟨hML, ?_, ?_, ?_, ?_, ?_, ?_, ?_⟩, ?_, ?_, ?_⟩, by rw [← eM, he]⟩
    · subst eM
      exact more _ hO (hE he) (by omega) ho rfl
    · subst eM
      exact ⟨if_pos he, by omega, by omega⟩
    · subst eM; exact h0
    · subst eM; exact h3
    · subst eM; exact ⟨r, by omega, er⟩
    · subst eM; exact hk5
    · subst eM; exact htk.mono (by omega)
    · subst eM; exact ⟨rfl, Nat.zero_le _⟩
    · subst eM; exact hs
    · subst eM; exact hi.mono (by omega)
  | false =>
    refine ⟨M', ⟨nt, ns, nk, 0, ⟨hML, keep, ?_, ?_, ?_, ?_, ?_, ?_⟩, ?_, ?_, ?_⟩, by rw [← eM, he]⟩
    · subst eM
      exact ⟨if_neg (by rw [he]; decide), by omega, by omega⟩
    · subst eM; exact h0
    · subst eM; exact h3
    · subst eM; exact ⟨r, by omega, er⟩
    · subst eM; exact hk5
    · subst eM; exact htk
    · subst eM; exact ⟨rfl, Nat.zero_le _⟩
    · subst eM; exact hs
    · subst eM; exact hi
set_option maxRecDepth 100000 in
/-- no room for one text more -/
theorem r_text6 {ta : Nat} (h : RInv M 6 ns nk ta) : Ctr l 4 X sgX8_text [.ref 27] (mk S M) (rkQ S) := by
  have h9 := h.1.2.2.1.1
  exact Ctr.of okX8_text rfl (Nat.le_of_ble_eq_true rfl) (run_sound okX8_text noCut 40 (brT h9 ⟨⟨M, ⟨6, ns, nk, ta, h⟩, rfl⟩, _, rfl⟩))
theorem R_text (h : RI M) : Ctr l 4 X sgX8_text [.ref 27] (mk S M) (rkQ S) := by
  obtain ⟨nt, ns, nk, ta, h⟩ := h
  by_cases q : nt < 6
  · exact r_text h q
  · have e : nt = 6 := by have := h.1.2.2.1.2.2; omega
    subst e
    exact r_text6 h
/-- queries -/
theorem R_query {d : Nat} {s : Sig} {a : List Value} {w : Int32} (h : RI M) (q : Ctr l d X s a (mk S M) (zA S M (.int w))) : Ctr l d X s a (mk S M) (rkQ S) := by
  obtain ⟨nt, ns, nk, ta, h⟩ := h
  refine q.weak ?_
  rintro hp w ⟨⟨z, hz, rfl⟩, rfl⟩
  exact ⟨⟨sc M z, ⟨nt, ns, nk, ta, h.sc hz⟩, rfl⟩, _, rfl⟩
theorem R_queryL {d : Nat} {s : Sig} {a : List Value} {w : Int64} (h : RI M) (q : Ctr l d X s a (mk S M) (zA S M (.long w))) : Ctr l d X s a (mk S M) (rkL S) := by
  obtain ⟨nt, ns, nk, ta, h⟩ := h
  refine q.weak ?_
  rintro hp w ⟨⟨z, hz, rfl⟩, rfl⟩
  exact ⟨⟨sc M z, ⟨nt, ns, nk, ta, h.sc hz⟩, rfl⟩, _, rfl⟩
end RINV
end
section
-- 91.rinv2
/-! THE REFERENCE in general: what is kept by each call that changes it -/
section RINV2
variable {l : Launch} {X : List (List Int32)} {S : CS} {M : MS} {hp : AH} {nt ns nk ta : Nat} {xs : List Int32}
theorem MLen.r1 (h : MLen M) (e : xs.length = 5) : MLen (mR M 1 xs) := by
  obtain ⟨a1, a2, a3, a4, a5, a6, a7, a8, a9, a10, a11, a12, a13, a14, a15, a16, a17, a18⟩ := h
  exact ⟨e, a2, a3, a4, a5, a6, a7, a8, a9, a10, a11, a12, a13, a14, a15, a16, a17, a18⟩
theorem MLen.r2 (h : MLen M) (e : xs.length = 5) : MLen (mR M 2 xs) := by
  obtain ⟨a1, a2, a3, a4, a5, a6, a7, a8, a9, a10, a11, a12, a13, a14, a15, a16, a17, a18⟩ := h
  exact ⟨a1, e, a3, a4, a5, a6, a7, a8, a9, a10, a11, a12, a13, a14, a15, a16, a17, a18⟩
theorem MLen.r4 (h : MLen M) (e : xs.length = 36) : MLen (mR M 4 xs) := by
  obtain ⟨a1, a2, a3, a4, a5, a6, a7, a8, a9, a10, a11, a12, a13, a14, a15, a16, a17, a18⟩ := h
  exact ⟨a1, a2, e, a4, a5, a6, a7, a8, a9, a10, a11, a12, a13, a14, a15, a16, a17, a18⟩
theorem MLen.r5 (h : MLen M) (e : xs.length = 160) : MLen (mR M 5 xs) := by
  obtain ⟨a1, a2, a3, a4, a5, a6, a7, a8, a9, a10, a11, a12, a13, a14, a15, a16, a17, a18⟩ := h
  exact ⟨a1, a2, a3, e, a5, a6, a7, a8, a9, a10, a11, a12, a13, a14, a15, a16, a17, a18⟩
theorem MLen.r15 (h : MLen M) (e : xs.length = 10) : MLen (mR M 15 xs) := by
  obtain ⟨a1, a2, a3, a4, a5, a6, a7, a8, a9, a10, a11, a12, a13, a14, a15, a16, a17, a18⟩ := h
  exact ⟨a1, a2, a3, a4, a5, a6, e, a8, a9, a10, a11, a12, a13, a14, a15, a16, a17, a18⟩
theorem MLen.r16 (h : MLen M) (e : xs.length = 36) : MLen (mR M 16 xs) := by
  obtain ⟨a1, a2, a3, a4, a5, a6, a7, a8, a9, a10, a11, a12, a13, a14, a15, a16, a17, a18⟩ := h
  exact ⟨a1, a2, a3, a4, a5, a6, a7, e, a9, a10, a11, a12, a13, a14, a15, a16, a17, a18⟩
theorem MLen.r17 (h : MLen M) (e : xs.length = 4) : MLen (mR M 17 xs) := by
  obtain ⟨a1, a2, a3, a4, a5, a6, a7, a8, a9, a10, a11, a12, a13, a14, a15, a16, a17, a18⟩ := h
  exact ⟨a1, a2, a3, a4, a5, a6, a7, a8, e, a10, a11, a12, a13, a14, a15, a16, a17, a18⟩
theorem MLen.r18 (h : MLen M) (e : xs.length = 4) : MLen (mR M 18 xs) := by
  obtain ⟨a1, a2, a3, a4, a5, a6, a7, a8, a9, a10, a11, a12, a13, a14, a15, a16, a17, a18⟩ := h
  exact ⟨a1, a2, a3, a4, a5, a6, a7, a8, a9, e, a11, a12, a13, a14, a15, a16, a17, a18⟩
theorem MLen.r19 (h : MLen M) (e : xs.length = 160) : MLen (mR M 19 xs) := by
  obtain ⟨a1, a2, a3, a4, a5, a6, a7, a8, a9, a10, a11, a12, a13, a14, a15, a16, a17, a18⟩ := h
  exact ⟨a1, a2, a3, a4, a5, a6, a7, a8, a9, a10, e, a12, a13, a14, a15, a16, a17, a18⟩
theorem MLen.n (h : MLen M) (i : Nat) (v : Int32) : MLen (mN M i v) := h
theorem R_rs {d : Nat} {g : Sig} {a : List Value} {r : MS × Int32} (hr : RI r.1) (q : Ctr l d X g a (mk S M) (rsQ S r)) : Ctr l d X g a (mk S M) (rkQ S) := q.weak (by
  rintro hp w ⟨rfl, rfl⟩
  exact ⟨⟨r.1, hr, rfl⟩, _, rfl⟩)
theorem getD_kd {ys zs : List Int32} {j : Nat} {k m : Int32} (h : ∀ i, i < 5 → Kd (ys.getD i 0) (zs.getD i 0)) (l1 : ys.length = 5) (l2 : zs.length = 5) (hj : j < 5) (hk : Kd k m) : ∀ i, i < 5 → Kd ((ys.set j k).getD i 0) ((zs.set j m).getD i 0) := by
  intro i hi
  by_cases e : j = i
  · subst e
    rw [getD_set_eq (by omega), getD_set_eq (by omega)]
    exact hk
  · rw [getD_set_ne e, getD_set_ne e]
    exact h i hi
theorem spG_R (h : RInv M nt ns nk ta) (k m : Int32) : RI (spG M ns k m).1 := by
  have hh := h
  obtain ⟨⟨hM, hO, h9, ⟨h0, h5⟩, h3, hr, hk5, htk⟩, hrest⟩ := h
  unfold spG
  by_cases q : soP k m
  · rw [if_pos q]
    by_cases e : ns = 5
    · rw [if_pos e]
      exact ⟨nt, ns, nk, ta, hh⟩
    · rw [if_neg e]
      exact ⟨nt, ns + 1, nk, ta, ⟨(((hM.r1 (by rw [List.length_set]; exact hM.1)).r2 (by rw [List.length_set]; exact hM.2.1)).n 0 _ : MLen (spM M ns k m)), hO, h9, ⟨rfl, by omega⟩, h3, hr, getD_kd hk5 hM.1 hM.2.1 (by omega) q, htk⟩, hrest⟩
  · rw [if_neg q]
    exact ⟨nt, ns, nk, ta, hh⟩
theorem trG_R (h : RInv M nt ns nk ta) (s k m : Int32) : RI (trG M ns s k m).1 := by
  have hh := h
  obtain ⟨⟨hM, hO, h9, ⟨h0, h5⟩, h3, hr, hk5, htk⟩, hrest⟩ := h
  unfold trG
  by_cases q0 : tP ns s
  · rw [if_pos q0]
    obtain ⟨a, ha, rfl⟩ := inN (by omega) q0
    by_cases q : soP k m
    · rw [if_pos q, nI_clamp (by omega)]
      exact ⟨nt, ns, nk, ta, ⟨((hM.r1 (by rw [List.length_set]; exact hM.1)).r2 (by rw [List.length_set]; exact hM.2.1) : MLen (trM M a k m)), hO, h9, ⟨h0, h5⟩, h3, hr, getD_kd hk5 hM.1 hM.2.1 (by omega) q, htk⟩, hrest⟩
    · rw [if_neg q]
      exact ⟨nt, ns, nk, ta, hh⟩
  · rw [if_neg q0]
    exact ⟨nt, ns, nk, ta, hh⟩
theorem syG_R (h : RInv M nt ns nk ta) (s t u : Int32) : ∃ nk', RInv (syG M nt ns nk s t u).1 nt ns nk' ta ∧ nk' = (if 0 ≤ (syG M nt ns nk s t u).2 then nk + 1 else nk) := by
  obtain ⟨nk', h1, -, -, -, h2⟩ := syG_inv h.1 s t u
  refine ⟨nk', ⟨h1, ?_⟩, h2⟩
  have rest := h.2
  unfold syG
  split
  · split
    · split
      · exact rest
      · exact rest
    · exact rest
  · exact rest
theorem fdG_R (h : RInv M nt ns nk ta) (n a b c d e : Int32) : RI (fdG M ta n a b c d e).1 := by
  have hh := h
  obtain ⟨⟨hM, hO, h9, h0, h3, hr, hk5, htk⟩, ⟨hta, hta2⟩, hsh, him⟩ := h
  unfold fdG
  by_cases q : feQ n a b c d e
  · rw [if_pos q]
    by_cases q2 : 160 < ta + n.toNatClampNeg
    · rw [if_pos q2]
      exact ⟨nt, ns, nk, ta, hh⟩
    · rw [if_neg q2]
      exact ⟨nt, ns, nk, ta + n.toNatClampNeg, ⟨(hM.r5 (by rw [fdM_len]; exact hM.2.2.2.1)).n 6 _, hO, h9, h0, h3, hr, hk5, htk⟩, ⟨rfl, by omega⟩, hsh, him⟩
  · rw [if_neg q]
    exact ⟨nt, ns, nk, ta, hh⟩
theorem getD_app5 {ys zs : List Int32} (h : ys.length = 5) {i : Nat} (hi : i < 5) : (ys ++ zs).getD i 0 = ys.getD i 0 ∧ (ys ++ zs).getD (5 + i) 0 = zs.getD i 0 := by
  constructor
  · rw [List.getD_eq_getElem?_getD, List.getD_eq_getElem?_getD, List.getElem?_append_left (by omega)]
  · rw [List.getD_eq_getElem?_getD, List.getD_eq_getElem?_getD, List.getElem?_append_right (by omega), h, Nat.add_sub_cancel_left]
theorem getD_cut5 {ys : List Int32} {i : Nat} (hi : i < 5) : (ys.take 5).getD i 0 = ys.getD i 0 ∧ (ys.drop 5).getD i 0 = ys.getD (5 + i) 0 := by
  constructor
  · rw [List.getD_eq_getElem?_getD, List.getD_eq_getElem?_getD, List.getElem?_take_of_lt hi]
  · rw [List.getD_eq_getElem?_getD, List.getD_eq_getElem?_getD, List.getElem?_drop]
theorem imM_R (h : RInv M nt ns nk ta) : RI (imM M) := by
  obtain ⟨⟨hM, hO, h9, ⟨h0, h05⟩, ⟨h3, h312⟩, ⟨r, hr, er⟩, hk5, htk⟩, hta, hsh, him⟩ := h
  have hL : MLen (imM M) := (((((hM.n 11 1).n 12 (M.1 0)).n 13 (M.1 3)).n 14 (M.1 10)).r15 (xs := M.2.1 1 ++ M.2.1 2) (by rw [List.length_append, hM.1, hM.2.1])).r16 (xs := M.2.1 4) hM.2.2.1
  refine ⟨nt, ns, nk, ta, ⟨hL, hO, h9, ⟨h0, h05⟩, ⟨h3, h312⟩, ⟨r, hr, er⟩, hk5, htk⟩, hta, hsh, Or.inr ⟨ns, nk, r, h0, h05, h3, h312, er, hr, fun i hi => ?_, htk⟩⟩
  show Kd ((M.2.1 1 ++ M.2.1 2).getD i 0) ((M.2.1 1 ++ M.2.1 2).getD (5 + i) 0)
  rw [(getD_app5 hM.1 hi).1, (getD_app5 hM.1 hi).2]
  exact hk5 i hi
theorem bkG_R (h : RInv M nt ns nk ta) : RI (bkG M).1 := by
  have hh := h
  obtain ⟨⟨hM, hO, h9, h0, h3, hr, hk5, htk⟩, hta, hsh, him⟩ := h
  have l15 : (M.2.1 15).length = 10 := hM.2.2.2.2.2.2.1
  unfold bkG
  by_cases q : M.1 11 = 0
  · rw [if_pos q]
    exact ⟨nt, ns, nk, ta, hh⟩
  · rw [if_neg q]
    obtain ⟨ns', nk', r, e1, b1, e2, b2, e3, b3, hk', ht'⟩ := him.resolve_left q
    have hL : MLen (bkM M) := ((((((hM.r1 (xs := (M.2.1 15).take 5) (by rw [List.length_take, l15]; rfl)).r2 (xs := (M.2.1 15).drop 5) (by rw [List.length_drop, l15])).r4 (xs := M.2.1 16) hM.2.2.2.2.2.2.2.1).n 0 (M.1 12)).n 3 (M.1 13)).n 10 (M.1 14))
    refine ⟨nt, ns', nk', ta, ⟨hL, hO, h9, ⟨e1, b1⟩, ⟨e2, b2⟩, ⟨r, b3, e3⟩, fun i hi => ?_, ht'⟩, hta, hsh, him⟩
    show Kd (((M.2.1 15).take 5).getD i 0) (((M.2.1 15).drop 5).getD i 0)
    rw [(getD_cut5 hi).1, (getD_cut5 hi).2]
    exact hk' i hi
theorem ShOk.set {ys zs : List Int32} {s : Nat} {v : Int32} {z : Nat} (h : ShOk M) (hv : m2P v) (hz : z ≤ 40) (l17 : (M.2.1 17).length = 4) (l18 : (M.2.1 18).length = 4) (xs : List Int32) : ShOk (mR (mR (mR M 17 ((M.2.1 17).set s v)) 18 ((M.2.1 18).set s (nI z))) 19 xs) := by
  intro i hi
  show m2P (((M.2.1 17).set s v).getD i 0) ∧ ∃ z' : Nat, z' ≤ 40 ∧ ((M.2.1 18).set s (nI z)).getD i 0 = nI z'
  by_cases e : s = i
  · subst e
    rw [getD_set_eq (by omega), getD_set_eq (by omega)]
    exact ⟨hv, z, hz, rfl⟩
  · rw [getD_set_ne e, getD_set_ne e]
    exact h i hi
theorem sheets_R (h : RInv M nt ns nk ta) {s : Nat} {v : Int32} {z : Nat} (hv : m2P v) (hz : z ≤ 40) {xs : List Int32} (hx : xs.length = 160) : RI (mR (mR (mR M 17 ((M.2.1 17).set s v)) 18 ((M.2.1 18).set s (nI z))) 19 xs) := by
  obtain ⟨⟨hM, hO, h9, h0, h3, hr, hk5, htk⟩, hta, hsh, him⟩ := h
  have l17 : (M.2.1 17).length = 4 := hM.2.2.2.2.2.2.2.2.1
  have l18 : (M.2.1 18).length = 4 := hM.2.2.2.2.2.2.2.2.2.1
  exact ⟨nt, ns, nk, ta, ⟨((hM.r17 (by rw [List.length_set]; exact l17)).r18 (by rw [List.length_set]; exact l18)).r19 hx, hO, h9, h0, h3, hr, hk5, htk⟩, hta, hsh.set (ys := []) (zs := []) hv hz l17 l18 xs, him⟩
theorem shG_R (h : RInv M nt ns nk ta) (s sort n : Int32) : RI (shG M s sort n).1 := by
  have l19 : (M.2.1 19).length = 160 := h.1.1.2.2.2.2.2.2.2.2.2.2.1
  unfold shG
  by_cases q : p3P s ∧ m2P sort ∧ (sort = -1 ∨ n ≤ 40)
  · rw [if_pos q]
    by_cases q2 : ¬ sort = -1 ∧ n < 0
    · rw [if_pos q2]
      exact ⟨nt, ns, nk, ta, h⟩
    · rw [if_neg q2]
      obtain ⟨z, hz, e⟩ : ∃ z : Nat, z ≤ 40 ∧ (if sort = -1 then (0 : Int32) else n) = nI z := by
        by_cases q3 : sort = -1
        · exact ⟨0, by decide, if_pos q3⟩
        · have q4 : n ≤ 40 := q.2.2.resolve_left q3
          obtain ⟨k, hk, e⟩ := inC (c := 40) (n := 40) (by decide) (by decide) ⟨Int32.not_lt.mp (fun y => q2 ⟨q3, y⟩), q4⟩
          exact ⟨k, hk, (if_neg q3).trans e⟩
      show RI (shM M s.toNatClampNeg sort n)
      unfold shM
      rw [e]
      exact sheets_R h q.2.1 hz (by rw [zeC_len]; exact l19)
  · rw [if_neg q]
    exact ⟨nt, ns, nk, ta, h⟩
theorem fiG_R (h : RInv M nt ns nk ta) (s : Int32) : RI (fiG M nk s).1 := by
  have l19 : (M.2.1 19).length = 160 := h.1.1.2.2.2.2.2.2.2.2.2.2.1
  have h12 := h.1.2.2.2.2.1.2
  unfold fiG
  by_cases q : p3P s
  · rw [if_pos q]
    exact sheets_R h (v := 2) (z := 3 * nk) (by decide) (by omega) (by rw [zeC_len]; exact l19)
  · rw [if_neg q]
    exact ⟨nt, ns, nk, ta, h⟩
theorem row19_R (h : RInv M nt ns nk ta) {xs : List Int32} (hx : xs.length = 160) : RI (mR M 19 xs) := by
  obtain ⟨⟨hM, hO, h9, h0, h3, hr, hk5, htk⟩, hta, hsh, him⟩ := h
  exact ⟨nt, ns, nk, ta, ⟨hM.r19 hx, hO, h9, h0, h3, hr, hk5, htk⟩, hta, hsh, him⟩
theorem ceG_R (h : RInv M nt ns nk ta) (s i v : Int32) : RI (ceG M s i v).1 := by
  have l19 : (M.2.1 19).length = 160 := h.1.1.2.2.2.2.2.2.2.2.2.2.1
  unfold ceG
  split
  · split
    · exact ⟨nt, ns, nk, ta, h⟩
    · split
      · exact row19_R h (by rw [List.length_set]; exact l19)
      · exact ⟨nt, ns, nk, ta, h⟩
  · exact ⟨nt, ns, nk, ta, h⟩
theorem coG_R (h : RInv M nt ns nk ta) (s i o j n : Int32) : RI (coG M s i o j n).1 := by
  have l19 : (M.2.1 19).length = 160 := h.1.1.2.2.2.2.2.2.2.2.2.2.1
  unfold coG
  split
  · split
    · exact ⟨nt, ns, nk, ta, h⟩
    · split
      · split
        · exact row19_R h (by rw [coC_len]; exact l19)
        · exact ⟨nt, ns, nk, ta, h⟩
      · exact ⟨nt, ns, nk, ta, h⟩
  · exact ⟨nt, ns, nk, ta, h⟩
theorem sbF_R (s : Nat) (sz fr : Int32) : ∀ (m k : Nat) (Q : SB), RInv Q.1 nt ns Q.2.1 ta → RI (sbF nt ns s sz fr m k Q).1
  | 0, _, Q, h => ⟨nt, ns, Q.2.1, ta, h⟩
  | m + 1, k, Q, h => by
    rw [sbF]
    split
    · exact ⟨nt, ns, Q.2.1, ta, h⟩
    · refine sbF_R s sz fr m (k + 1) _ ?_
      unfold sbS
      generalize 40 * s + (fr + Int32.ofInt 3 * nI k).toNatClampNeg = c
      obtain ⟨nk', h1, h2⟩ := syG_R h (ceA Q.1 c) (ceA Q.1 (c + 1)) (ceA Q.1 (c + 2))
      rw [h2] at h1
      exact h1
theorem sbG_R (h : RInv M nt ns nk ta) (s sort fr n : Int32) : RI (sbG M nt ns nk s sort fr n).1 := by
  unfold sbG
  split
  · split
    · exact ⟨nt, ns, nk, ta, h⟩
    · split
      · exact sbF_R _ _ _ _ _ _ h
      · exact ⟨nt, ns, nk, ta, h⟩
  · exact ⟨nt, ns, nk, ta, h⟩
end RINV2
end
section
-- 92.rcall
/-! THE REFERENCE in general: each of its calls returns, and all is kept -/
section RCALL
variable {l : Launch} {X : List (List Int32)} {S : CS} {M : MS}
theorem R_ans {d : Nat} {g : Sig} {a : List Value} {v : Int32} (h : RI M) (q : Ans l d X g a (mk S M) v) : Ctr l d X g a (mk S M) (rkQ S) := q.weak (by
  rintro hp w ⟨rfl, rfl⟩
  exact ⟨⟨M, h, rfl⟩, _, rfl⟩)
theorem R_asks (h : RI M) (t w who part : Int32) : Ctr l 3 X sgX8_asks [.ref 27, .int t, .int w, .int who, .int part] (mk S M) (rkQ S) := let ⟨_, _, _, _, q⟩ := h; R_query h (g_asks q.1 t w who part)
theorem R_means (h : RI M) (t part : Int32) : Ctr l 4 X sgX8_means [.ref 27, .int t, .int part] (mk S M) (rkL S) := let ⟨_, _, _, _, q⟩ := h; R_queryL h (g_means q.1 t part)
theorem R_pairs (h : RI M) (who : Int32) : Ctr l 4 X sgX8_pairs [.ref 27, .int who] (mk S M) (rkQ S) := let ⟨_, _, _, _, q⟩ := h; R_query h (g_pairs q.1 who)
theorem R_worlds (h : RI M) : Ctr l 6 X sgX8_worlds [.ref 27] (mk S M) (rkL S) := let ⟨_, _, _, _, q⟩ := h; R_queryL h (g_worlds q.1)
theorem R_behind (h : RI M) (n what : Int32) : Ctr l 5 X sgX8_behind [.ref 27, .int n, .int what] (mk S M) (rkQ S) := let ⟨_, _, _, _, q⟩ := h; R_query h (g_behind q.1 n what)
theorem R_cannot (h : RI M) : Ctr l 5 X sgX8_cannot [.ref 27] (mk S M) (rkQ S) := let ⟨_, _, _, _, q⟩ := h; R_query h (g_cannot q.1)
theorem R_lies (h : RI M) : Ctr l 6 X sgX8_lies [.ref 27] (mk S M) (rkQ S) := let ⟨_, _, _, _, q⟩ := h; R_query h (g_lies q.1)
theorem R_least (h : RI M) (what : Int32) : Ctr l 6 X sgX8_least [.ref 27, .int what] (mk S M) (rkQ S) := let ⟨_, _, _, _, q⟩ := h; R_query h (g_least q.1 what)
theorem R_mad (h : RI M) (what : Int32) : Ctr l 5 X sgX8_mad [.ref 27, .int what] (mk S M) (rkQ S) := let ⟨_, _, _, _, q⟩ := h; R_query h (g_mad q.1 what)
theorem R_habit (h : RI M) (s w part : Int32) : Ctr l 5 X sgX8_habit [.ref 27, .int s, .int w, .int part] (mk S M) (rkL S) := let ⟨_, _, _, _, q⟩ := h; R_queryL h (g_habit q.1 s w part)
theorem R_kinds (h : RI M) (s w : Int32) : Ctr l 5 X sgX8_kinds [.ref 27, .int s, .int w] (mk S M) (rkQ S) := let ⟨_, _, _, _, q⟩ := h; R_query h (g_kinds q.1 s w)
theorem R_ask (h : RI M) (what : Int32) : Ctr l 7 X sgX8_ask [.ref 27, .int what] (mk S M) (rkQ S) := let ⟨_, _, _, _, q⟩ := h; R_query h (g_ask q.1 what)
theorem R_two (h : RI M) (what : Int32) : Ctr l 6 X sgX8_two_ [.ref 27, .int what] (mk S M) (rkQ S) := let ⟨_, _, _, _, q⟩ := h; R_query h (g_two q.1 what)
theorem R_parts (h : RI M) (s t what : Int32) : Ctr l 6 X sgX8_parts [.ref 27, .int s, .int t, .int what] (mk S M) (rkL S) := let ⟨_, _, _, _, q⟩ := h; R_queryL h (g_parts q.1 s t what)
theorem R_hide (h : RI M) (s w x : Int32) : Ctr l 6 X sgX8_hide [.ref 27, .int s, .int w, .int x] (mk S M) (rkQ S) := let ⟨_, _, _, _, q⟩ := h; R_query h (g_hide q.1 s w x)
theorem R_same (h : RI M) (t u what : Int32) : Ctr l 6 X sgX8_same [.ref 27, .int t, .int u, .int what] (mk S M) (rkQ S) := let ⟨_, _, _, _, q⟩ := h; R_query h (g_same q.1 t u what)
theorem R_claims (h : RI M) (t : Int32) : Ctr l 6 X sgX8_claims [.ref 27, .int t] (mk S M) (rkQ S) := let ⟨_, _, _, _, q⟩ := h; R_query h (g_claims q.1 t)
theorem R_settle (h : RI M) (what : Int32) : Ctr l 6 X sgX8_settle [.ref 27, .int what] (mk S M) (rkQ S) := let ⟨_, _, _, _, q⟩ := h; R_query h (g_settle q.1 what)
theorem R_thrice (h : RI M) (t u v : Int32) : Ctr l 6 X sgX8_thrice [.ref 27, .int t, .int u, .int v] (mk S M) (rkL S) := let ⟨_, _, _, _, q⟩ := h; R_queryL h (g_thrice q.1 t u v)
theorem R_many (h : RI M) (what : Int32) : Ctr l 6 X sgX8_many [.ref 27, .int what] (mk S M) (rkQ S) := let ⟨_, _, _, _, q⟩ := h; R_query h (g_many q.1 what)
theorem R_drawn (h : RI M) (seed : Int32) : Ctr l 6 X sgX8_drawn [.ref 27, .int seed] (mk S M) (rkQ S) := let ⟨_, _, _, _, q⟩ := h; R_query h (g_drawn q.1 seed)
theorem R_mean (h : RI M) (seed seeds part : Int32) : Ctr l 6 X sgX8_mean [.ref 27, .int seed, .int seeds, .int part] (mk S M) (rkL S) := let ⟨_, _, _, _, q⟩ := h; R_queryL h (g_mean q.1 seed seeds part)
theorem R_told (h : RI M) (s what : Int32) : Ctr l 2 X sgX8_told [.ref 27, .int s, .int what] (mk S M) (rkQ S) := let ⟨_, _, _, _, q⟩ := h; R_ans h (g_told q.1 s what)
theorem R_said (h : RI M) (k what : Int32) : Ctr l 2 X sgX8_said [.ref 27, .int k, .int what] (mk S M) (rkQ S) := let ⟨_, _, _, _, q⟩ := h; R_ans h (g_said q.1 k what)
theorem R_taken (h : RI M) (i k : Int32) : Ctr l 1 X sgX8_taken [.ref 27, .int i, .int k] (mk S M) (rkQ S) := let ⟨_, _, _, _, q⟩ := h; R_ans h (g_taken q.1 i k)
theorem R_count (h : RI M) (v : Int32) : Ctr l 0 X sgX8_count [.ref 27, .int v] (mk S M) (rkQ S) := R_ans h (m_count v)
theorem R_judge (h : RI M) (s w : Int32) : Ctr l 5 X sgX8_judge [.ref 27, .int s, .int w] (mk S M) (rkQ S) := let ⟨_, _, _, _, q⟩ := h; R_query h (g_judge q.1 q.2.2.1 s w)
theorem R_speaker (h : RI M) (k m : Int32) : Ctr l 2 X sgX8_speaker [.ref 27, .int k, .int m] (mk S M) (rkQ S) := let ⟨_, _, _, _, q⟩ := h; R_rs (spG_R q k m) (g_speaker q.1 k m)
theorem R_turn (h : RI M) (s k m : Int32) : Ctr l 2 X sgX8_turn [.ref 27, .int s, .int k, .int m] (mk S M) (rkQ S) := let ⟨_, _, _, _, q⟩ := h; R_rs (trG_R q s k m) (g_turn q.1 s k m)
theorem R_film (h : RI M) (s : Int32) : Ctr l 1 X sgX8_film [.ref 27, .int s] (mk S M) (rkQ S) := let ⟨_, _, _, _, q⟩ := h; R_rs (fiG_R q s) (g_film q.1 s)
theorem R_say (h : RI M) (s t u : Int32) : Ctr l 2 X sgX8_say [.ref 27, .int s, .int t, .int u] (mk S M) (rkQ S) := let ⟨nt, ns, _, ta, q⟩ := h; R_rs (let ⟨k, e, _⟩ := syG_R q s t u; ⟨nt, ns, k, ta, e⟩) (g_say q.1 s t u)
theorem R_feed (h : RI M) (n a b c d e : Int32) : Ctr l 2 X sgX8_feed [.ref 27, .int n, .int a, .int b, .int c, .int d, .int e] (mk S M) (rkQ S) := let ⟨_, _, _, _, q⟩ := h; R_rs (fdG_R q n a b c d e) (g_feed q.1.1 q.2.1.1 q.2.1.2 n a b c d e)
theorem R_image (h : RI M) : Ctr l 0 X sgX8_image [.ref 27] (mk S M) (rkQ S) := let ⟨_, _, _, _, q⟩ := h; R_rs (r := (imM M, M.1 3)) (imM_R q) (g_image q.1.1)
theorem R_back (h : RI M) : Ctr l 0 X sgX8_back [.ref 27] (mk S M) (rkQ S) := let ⟨_, _, _, _, q⟩ := h; R_rs (bkG_R q) (g_back q.1.1)
theorem R_sheet (h : RI M) (s sort n : Int32) : Ctr l 1 X sgX8_sheet [.ref 27, .int s, .int sort, .int n] (mk S M) (fun hp w => (∃ M, RI M ∧ hp = mk S M) ∧ w = some (.int (shtA s sort n))) := by
  obtain ⟨nt, ns, nk, ta, q⟩ := h
  refine (g_sheet q.1.1 s sort n).weak ?_
  rintro hp w ⟨rfl, rfl⟩
  exact ⟨⟨_, shG_R q s sort n, rfl⟩, some_int (shG_ans M s sort n)⟩
theorem R_cell (h : RI M) (s i v : Int32) : Ctr l 2 X sgX8_cell [.ref 27, .int s, .int i, .int v] (mk S M) (rkQ S) := let ⟨_, _, _, _, q⟩ := h; R_rs (ceG_R q s i v) (g_cell q.1.1 q.2.2.1 s i v)
theorem R_copy (h : RI M) (s i o j n : Int32) : Ctr l 2 X sgX8_copy [.ref 27, .int s, .int i, .int o, .int j, .int n] (mk S M) (rkQ S) := let ⟨_, _, _, _, q⟩ := h; R_rs (coG_R q s i o j n) (g_copy q.1.1 q.2.2.1 s i o j n)
theorem R_sayingsBy (h : RI M) (s sort fr n : Int32) : Ctr l 3 X sgX8_sayingsBy [.ref 27, .int s, .int sort, .int fr, .int n] (mk S M) (rkQ S) := let ⟨_, _, _, _, q⟩ := h; R_rs (sbG_R q s sort fr n) (g_sayingsBy q.1 q.2.2.1 s sort fr n)
theorem R_force (h : RI M) (v : Int32) : Ctr l 1 X sgX8_force [.ref 27, .int v] (mk S M) (rkQ S) := by
  refine (m_force v).weak ?_
  rintro hp w ⟨rfl, rfl⟩
  refine ⟨⟨_, ?_, rfl⟩, _, rfl⟩
  by_cases q : frP M v
  · rw [if_pos q]
    obtain ⟨nt, ns, nk, ta, ⟨⟨hM, hO, h9, h0, h3, hr, hk5, htk⟩, hrest⟩⟩ := h
    have q : inP v (Int32.ofInt 0) (M.1 9 - Int32.ofInt 1) := q
    rw [h9.1] at q
    obtain ⟨k, hk, rfl⟩ := inN (by omega) q
    exact ⟨nt, ns, nk, ta, ⟨hM.n 10 _, hO, h9, h0, h3, ⟨k, hk, rfl⟩, hk5, htk⟩, hrest⟩
  · rw [if_neg q]
    exact h
theorem R_unsay (h : RI M) : Ctr l 0 X sgX8_unsay [.ref 27] (mk S M) (rkQ S) := by
  refine m_unsay.weak ?_
  rintro hp w ⟨rfl, rfl⟩
  refine ⟨⟨_, ?_, rfl⟩, _, rfl⟩
  by_cases q : M.1 3 = Int32.ofInt 0
  · rw [if_pos q]
    exact h
  · rw [if_neg q]
    obtain ⟨nt, ns, nk, ta, ⟨⟨hM, hO, h9, h0, h3, hr, hk5, htk⟩, hrest⟩⟩ := h
    have hk : 1 ≤ nk := Nat.pos_of_ne_zero (fun z => q (by rw [h3.1, z]; rfl))
    refine ⟨nt, ns, nk - 1, ta, ⟨hM.n 3 _, hO, h9, h0, ⟨?_, by omega⟩, hr, hk5, fun k hk => htk k (by omega)⟩, hrest⟩
    show M.1 3 - Int32.ofInt 1 = nI (nk - 1)
    rw [h3.1]
    exact nI_m1 hk
end RCALL
end
section
-- 93.kinv
/-! THE CLASS in general: what always holds of it; calls without loops return and keep it -/
section KINV
variable {l : Launch} {X : List (List Int32)} {S : CS} {T : AH} {hp : AH} {nt ns nk ta : Nat}
def KI (S : CS) (nt ns nk ta : Nat) : Prop := CInv S nt ns nk ∧ TxInv S ∧ (S.1 11 = nI ta ∧ ta ≤ 160) ∧ ∃ a b : Nat, S.1 173 = nI a ∧ a ≤ 5 ∧ S.1 174 = nI b ∧ b ≤ 12
abbrev KC (S : CS) : Prop := ∃ nt ns nk ta, KI S nt ns nk ta
abbrev kcQ (T : AH) : AH → Option Value → Prop := fun h w => (∃ S, KC S ∧ h = encC S ++ T) ∧ ∃ v : Int32, w = some (.int v)
abbrev kcL (T : AH) : AH → Option Value → Prop := fun h w => (∃ S, KC S ∧ h = encC S ++ T) ∧ ∃ v : Int64, w = some (.long v)
/-- a query: only what its best question is has changed -/
abbrev kqQ (S : CS) (T : AH) : AH → Option Value → Prop := fun h w => (∃ B, h = encC (setB S B) ++ T) ∧ ∃ v : Int32, w = some (.int v)
abbrev kqL (S : CS) (T : AH) : AH → Option Value → Prop := fun h w => (∃ B, h = encC (setB S B) ++ T) ∧ ∃ v : Int64, w = some (.long v)
theorem lq (_ : KC S) {v : Int32} : kqQ S T (encC S ++ T) (some (.int v)) := ⟨⟨getB S, rfl⟩, v, rfl⟩
theorem lqL (_ : KC S) {v : Int64} : kqL S T (encC S ++ T) (some (.long v)) := ⟨⟨getB S, rfl⟩, v, rfl⟩
theorem lqB (B : BQ) {v : Int32} : kqQ S T (encC (setB S B) ++ T) (some (.int v)) := ⟨⟨B, rfl⟩, v, rfl⟩
theorem lqBL (B : BQ) {v : Int64} : kqL S T (encC (setB S B) ++ T) (some (.long v)) := ⟨⟨B, rfl⟩, v, rfl⟩
theorem KC.setB (h : KC S) (B : BQ) : KC (setB S B) := h
theorem K_ans {d : Nat} {g : Sig} {a : List Value} {v : Int32} (h : KC S) (q : Ans l d X g a (encC S ++ T) v) : Ctr l d X g a (encC S ++ T) (kqQ S T) := q.weak (by
  rintro hp w ⟨rfl, rfl⟩
  exact ⟨⟨getB S, rfl⟩, _, rfl⟩)
theorem K_ansL {d : Nat} {g : Sig} {a : List Value} {v : Int64} (h : KC S) (q : AnsL l d X g a (encC S ++ T) v) : Ctr l d X g a (encC S ++ T) (kqL S T) := q.weak (by
  rintro hp w ⟨rfl, rfl⟩
  exact ⟨⟨getB S, rfl⟩, _, rfl⟩)
theorem K_worlds (h : KC S) : Ctr l 7 X sgX7_worlds [.ref 0] (encC S ++ T) (kqL S T) := let ⟨_, _, _, _, q⟩ := h; K_ansL h (c_worlds q.1)
theorem K_cannot (h : KC S) : Ctr l 5 X sgX7_cannot [.ref 0] (encC S ++ T) (kqQ S T) := let ⟨_, _, _, _, q⟩ := h; K_ans h (c_cannot q.1)
theorem K_lies (h : KC S) : Ctr l 7 X sgX7_lies [.ref 0] (encC S ++ T) (kqQ S T) := let ⟨_, _, _, _, q⟩ := h; K_ans h (c_lies q.1)
theorem K_least (h : KC S) (what : Int32) : Ctr l 6 X sgX7_least [.ref 0, .int what] (encC S ++ T) (kqQ S T) := let ⟨_, _, _, _, q⟩ := h; K_ans h (c_least q.1 what)
theorem K_mad (h : KC S) (what : Int32) : Ctr l 6 X sgX7_mad [.ref 0, .int what] (encC S ++ T) (kqQ S T) := let ⟨_, _, _, _, q⟩ := h; K_ans h (c_mad q.1 what)
theorem K_kinds (h : KC S) (s w : Int32) : Ctr l 5 X sgX7_kinds [.ref 0, .int s, .int w] (encC S ++ T) (kqQ S T) := let ⟨_, _, _, _, q⟩ := h; K_ans h (c_kinds q.1 s w)
theorem K_ask (h : KC S) (what : Int32) : Ctr l 7 X sgX7_ask [.ref 0, .int what] (encC S ++ T) (kqQ S T) := by
  obtain ⟨nt, ns, nk, ta, q⟩ := h
  refine (c_ask q.1 what).weak ?_
  rintro hp w ⟨⟨B, rfl⟩, rfl⟩
  exact ⟨⟨B, rfl⟩, _, rfl⟩
theorem KC.len (h : KC S) : CLen S := let ⟨_, _, _, _, q⟩ := h; q.1.1
theorem lk0 (h : KC S) : ∃ S', KC S' ∧ encC S ++ T = encC S' ++ T := ⟨S, h, rfl⟩
theorem lk (h : KC S) {v : Int32} : kcQ T (encC S ++ T) (some (.int v)) := ⟨lk0 h, v, rfl⟩
theorem lkL (h : KC S) {v : Int64} : kcL T (encC S ++ T) (some (.long v)) := ⟨lk0 h, v, rfl⟩
set_option maxRecDepth 100000 in
theorem K_count (h : KC S) (v : Int32) : Ctr l 0 X sgX7_count [.ref 0, .int v] (encC S ++ T) (kqQ S T) :=
  Ctr.of okX7_count rfl (Nat.le_of_ble_eq_true rfl) (run_sound okX7_count noCut 100 (And.intro (fun _ => lq h) (And.intro (fun _ => lq h) (And.intro (fun _ => lq h) (And.intro (fun _ => lq h) (And.intro (fun _ => lq h) (And.intro (fun _ => lq h) trivial)))))))
set_option maxRecDepth 100000 in
theorem K_force (h : KC S) (t : Int32) : Ctr l 2 X sgX7_force [.ref 0, .int t] (encC S ++ T) (kcQ T) := by
  refine Ctr.of okX7_force rfl (Nat.le_of_ble_eq_true rfl) (run_sound okX7_force noCut 100 ?_)
  exact kH (c_isText t) (by decide) (brB' (fun q => lk h) (fun q => And.intro trivial ⟨⟨cN S 135 t, h, rfl⟩, _, rfl⟩))
set_option maxRecDepth 100000 in
theorem K_asks (h : KC S) (t w who part : Int32) : Ctr l 2 X sgX7_asks [.ref 0, .int t, .int w, .int who, .int part] (encC S ++ T) (kqQ S T) := by
  have hL := h.len
  refine Ctr.of okX7_asks rfl (Nat.le_of_ble_eq_true rfl) (run_sound okX7_asks noCut 100 ?_)
  exact kH (c_isText t) (by decide) (brB' (fun q => lq h) (fun q => kH (c_isWorld w) (by decide) (brB' (fun q2 => lq h) (fun q2 => kH (c_isBelow who 5) (by decide) (brB' (fun q3 => lq h) (fun q3 => kH (c_isBelow part 3) (by decide) (brB' (fun q4 => lq h) (fun q4 => br (fun _ => kH (c_costOf hL t who) (by decide) (lq h)) (fun _ => kH (c_side hL t who part) (by decide) (kH (c_bit _ _) (by decide) (lq h)))))))))))
set_option maxRecDepth 100000 in
theorem K_means (h : KC S) (t part : Int32) : Ctr l 2 X sgX7_means [.ref 0, .int t, .int part] (encC S ++ T) (kqL S T) := by
  have hL := h.len
  refine Ctr.of okX7_means rfl (Nat.le_of_ble_eq_true rfl) (run_sound okX7_means noCut 100 ?_)
  exact kH (c_isText t) (by decide) (brB' (fun q => ⟨rfl, lqL h⟩) (fun q => kH (c_isBelow part 2) (by decide) (brB' (fun q2 => ⟨rfl, lqL h⟩) (fun q2 => kH (c_side hL t 0 part) (by decide) (kH (c_bits _) (by decide) ⟨rfl, lqL h⟩)))))
theorem KI.rows {a b : List Int32} {i j : Nat} (h : KI S nt ns nk ta) (hi : 8 ≤ i) (hj : 8 ≤ j) (ha : a.length ≤ 1000) (hb : b.length ≤ 1000) : KI (cR (cR S i a) j b) nt ns nk ta := by
  obtain ⟨⟨hL, h1⟩, ⟨t4, t5, t6, t60, t7⟩, h3⟩ := h
  have e : ∀ k, k ≤ 7 → (cR (cR S i a) j b).2 k = S.2 k := by
    intro k hk
    show uf (uf S.2 i a) j b k = S.2 k
    unfold uf
    rw [if_neg (by omega), if_neg (by omega)]
  refine ⟨⟨(hL.row i a ha).row j b hb, h1⟩, ?_, h3⟩
  unfold TxInv
  rw [e 4 (by decide), e 5 (by decide), e 6 (by decide), e 7 (by decide)]
  exact ⟨t4, t5, t6, t60, t7⟩
theorem KI.row {a : List Int32} {i : Nat} (h : KI S nt ns nk ta) (hi : 8 ≤ i) (ha : a.length ≤ 1000) : KI (cR S i a) nt ns nk ta := by
  obtain ⟨⟨hL, h1⟩, ⟨t4, t5, t6, t60, t7⟩, h3⟩ := h
  have e : ∀ k, k ≤ 7 → (cR S i a).2 k = S.2 k := by
    intro k hk
    show uf S.2 i a k = S.2 k
    unfold uf
    rw [if_neg (by omega)]
  refine ⟨⟨hL.row i a ha, h1⟩, ?_, h3⟩
  unfold TxInv
  rw [e 4 (by decide), e 5 (by decide), e 6 (by decide), e 7 (by decide)]
  exact ⟨t4, t5, t6, t60, t7⟩
set_option maxRecDepth 100000 in
theorem K_speaker (h : KC S) (k m : Int32) : Ctr l 2 X sgX7_speaker [.ref 0, .int k, .int m] (encC S ++ T) (kcQ T) := by
  obtain ⟨nt, ns, nk, ta, q⟩ := id h
  have hL := h.len
  have hs : S.1 133 = nI ns := q.1.2.2.2.1
  have h5 : ns ≤ 5 := q.1.2.2.2.2.1
  refine Ctr.of okX7_speaker rfl (Nat.le_of_ble_eq_true rfl) (run_sound okX7_speaker noCut 200 ?_)
  refine kH (c_isKind k) (by decide) (brB' (fun _ => lk h) (fun _ => kH (c_isMore m) (by decide) (brB' (fun _ => lk h) (fun _ => br (fun y => kH (c_become13 hL _ k m) (by decide) ?_) (fun y => lk h)))))
  have h4 : ns < 5 := by
    have y : S.1 133 < 5 := y
    rw [hs] at y
    have y := Int32.lt_iff_toInt_lt.mp y
    rw [nI_toInt (by omega)] at y
    have e : (5 : Int32).toInt = 5 := by decide
    omega
  refine And.intro rfl (And.intro trivial ⟨⟨cN (cR (cR S 14 (putF (S.2 14) (S.1 133) k)) 15 (putF (S.2 15) (S.1 133) m)) 133 (S.1 133 + Int32.ofInt 1), ?_, rfl⟩, _, rfl⟩)
  have q' := q.rows (i := 14) (j := 15) (a := putF (S.2 14) (S.1 133) k) (b := putF (S.2 15) (S.1 133) m) (by decide) (by decide) (by rw [putF_len]; exact hL 14) (by rw [putF_len]; exact hL 15)
  obtain ⟨⟨c1, c2, c3, c4, c5, c6⟩, r2⟩ := q'
  exact ⟨nt, ns + 1, nk, ta, ⟨c1, c2, c3, (by show S.1 133 + Int32.ofInt 1 = nI (ns + 1); rw [hs]; exact nI_1 ns), by omega, c6⟩, r2⟩
set_option maxRecDepth 100000 in
theorem K_turn (h : KC S) (s k m : Int32) : Ctr l 2 X sgX7_turn [.ref 0, .int s, .int k, .int m] (encC S ++ T) (kcQ T) := by
  obtain ⟨nt, ns, nk, ta, q⟩ := id h
  have hL := h.len
  refine Ctr.of okX7_turn rfl (Nat.le_of_ble_eq_true rfl) (run_sound okX7_turn noCut 200 ?_)
  refine kH (c_isSpeaker s) (by decide) (brB' (fun _ => lk h) (fun _ => kH (c_isKind k) (by decide) (brB' (fun _ => lk h) (fun _ => kH (c_isMore m) (by decide) (brB' (fun _ => lk h) (fun _ => kH (c_at (xs := S.2 14) rfl (hL.lt 14)) (by decide) (kH (c_become13 hL s k m) (by decide) ?_)))))))
  exact ⟨⟨_, ⟨nt, ns, nk, ta, q.rows (i := 14) (j := 15) (a := putF (S.2 14) s k) (b := putF (S.2 15) s m) (by decide) (by decide) (by rw [putF_len]; exact hL 14) (by rw [putF_len]; exact hL 15)⟩, rfl⟩, _, rfl⟩
set_option maxRecDepth 100000 in
theorem K_told (h : KC S) (s what : Int32) : Ctr l 2 X sgX7_told [.ref 0, .int s, .int what] (encC S ++ T) (kqQ S T) := by
  have hL := h.len
  refine Ctr.of okX7_told rfl (Nat.le_of_ble_eq_true rfl) (run_sound okX7_told noCut 200 ?_)
  exact kH (c_isSpeaker s) (by decide) (brB' (fun _ => lq h) (fun _ => And.intro (fun _ => lq h) (And.intro (fun _ => kH (c_at (xs := S.2 14) rfl (hL.lt 14)) (by decide) (lq h)) (And.intro (fun _ => kH (c_at (xs := S.2 15) rfl (hL.lt 15)) (by decide) (lq h)) (And.intro (fun _ => kH (c_at (xs := S.2 14) rfl (hL.lt 14)) (by decide) (br (fun _ => lq h) (fun _ => lq h))) trivial)))))
set_option maxRecDepth 100000 in
theorem K_said (h : KC S) (k what : Int32) : Ctr l 2 X sgX7_said [.ref 0, .int k, .int what] (encC S ++ T) (kqQ S T) := by
  have hL := h.len
  refine Ctr.of okX7_said rfl (Nat.le_of_ble_eq_true rfl) (run_sound okX7_said noCut 200 ?_)
  exact kH (c_isBelow k (S.1 134)) (by decide) (brB' (fun _ => lq h) (fun _ => kH (c_isBelow what 3) (by decide) (brB' (fun _ => lq h) (fun _ => kH (c_sayingPart hL k what) (by decide) (lq h)))))
set_option maxRecDepth 100000 in
theorem K_parts (h : KC S) (s t what : Int32) : Ctr l 7 X sgX7_parts [.ref 0, .int s, .int t, .int what] (encC S ++ T) (kqL S T) := by
  obtain ⟨nt, ns, nk, ta, q⟩ := id h
  have hL := h.len
  refine Ctr.of okX7_parts rfl (Nat.le_of_ble_eq_true rfl) (run_sound okX7_parts noCut 200 ?_)
  exact kH (c_isSpeaker s) (by decide) (brB' (fun _ => ⟨rfl, lqL h⟩) (fun _ => kH (c_isText t) (by decide) (brB' (fun _ => ⟨rfl, lqL h⟩) (fun _ => kH (c_fitting q.1) (by decide) (kH (c_sayableNext hL s t 0 (S.1 134)) (by decide) (kH (c_sayableNext hL s t 1 (S.1 134)) (by decide) (And.intro (fun _ => ⟨rfl, lqL h⟩) (And.intro (fun _ => kH (c_bits _) (by decide) ⟨rfl, lqL h⟩) (And.intro (fun _ => kH (c_bits _) (by decide) ⟨rfl, lqL h⟩) (And.intro (fun _ => kH (c_bits _) (by decide) ⟨rfl, lqL h⟩) (And.intro (fun _ => kH (c_bits _) (by decide) ⟨rfl, lqL h⟩) trivial)))))))))))
set_option maxRecDepth 100000 in
theorem K_same (h : KC S) (t u what : Int32) : Ctr l 7 X sgX7_same [.ref 0, .int t, .int u, .int what] (encC S ++ T) (kqQ S T) := by
  obtain ⟨nt, ns, nk, ta, q⟩ := id h
  have hL := h.len
  refine Ctr.of okX7_same rfl (Nat.le_of_ble_eq_true rfl) (run_sound okX7_same noCut 100 ?_)
  exact kH (c_isText t) (by decide) (brB' (fun _ => lq h) (fun _ => kH (c_isText u) (by decide) (brB' (fun _ => lq h) (fun _ => kH (c_isBelow what 2) (by decide) (brB' (fun _ => lq h) (fun _ => br (fun _ => kH (c_fitting q.1) (by decide) (kH (c_onceOf hL t) (by decide) (kH (c_onceOf hL u) (by decide) (br (fun _ => lq h) (fun _ => lq h))))) (fun _ => kH (c_onceOf hL t) (by decide) (kH (c_onceOf hL u) (by decide) (br (fun _ => lq h) (fun _ => lq h))))))))))
set_option maxRecDepth 100000 in
theorem K_thrice (h : KC S) (t u v : Int32) : Ctr l 7 X sgX7_thrice [.ref 0, .int t, .int u, .int v] (encC S ++ T) (kqL S T) := by
  obtain ⟨nt, ns, nk, ta, q⟩ := id h
  have hL := h.len
  refine Ctr.of okX7_thrice rfl (Nat.le_of_ble_eq_true rfl) (run_sound okX7_thrice noCut 200 ?_)
  exact kH (c_isText t) (by decide) (brB' (fun _ => ⟨rfl, lqL h⟩) (fun _ => kH (c_isText u) (by decide) (brB' (fun _ => ⟨rfl, lqL h⟩) (fun _ => kH (c_isText v) (by decide) (brB' (fun _ => ⟨rfl, lqL h⟩) (fun _ => kH (c_onceOf hL t) (by decide) (kH (c_onceOf hL u) (by decide) (kH (c_onceOf hL v) (by decide) (kH (c_onceOf hL t) (by decide) (kH (c_onceOf hL u) (by decide) (kH (c_onceOf hL v) (by decide) (kH (c_fitting q.1) (by decide) (kH (c_bits _) (by decide) ⟨rfl, lqL h⟩)))))))))))))
end KINV
end
section
-- 94.kcall
/-! THE CLASS in general: sayings, sheets, images, what is taken -/
section KCALL
variable {l : Launch} {X : List (List Int32)} {S : CS} {T : AH} {hp : AH} {nt ns nk ta : Nat}
abbrev S3 (S : CS) (s t u : Int32) : CS := cN (cR S 16 (putF (putF (putF (S.2 16) (Int32.ofInt 3 * S.1 134) s) (Int32.ofInt 3 * S.1 134 + Int32.ofInt 1) t) (Int32.ofInt 3 * S.1 134 + Int32.ofInt 2) u)) 134 (S.1 134 + Int32.ofInt 1)
set_option maxRecDepth 100000 in
theorem c_append (hL : CLen S) (s t u : Int32) (h : S.1 134 < 12) : Ctr l 1 X sgX4_append [.ref 13, .int s, .int t, .int u] (encC S ++ T) (fun h w => h = encC (S3 S s t u) ++ T ∧ w = none) := by
  have h16 := hL.lt 16
  refine Ctr.of okX4_append rfl (Nat.le_of_ble_eq_true rfl) (run_sound okX4_append noCut 200 ?_)
  exact brT h (kH (c_put (xs := S.2 16) rfl rfl h16) (by decide) (kH (c_put (xs := putF (S.2 16) (Int32.ofInt 3 * S.1 134) s) rfl rfl (by rw [putF_len]; exact h16)) (by decide) (kH (c_put (xs := putF (putF (S.2 16) (Int32.ofInt 3 * S.1 134) s) (Int32.ofInt 3 * S.1 134 + Int32.ofInt 1) t) rfl rfl (by rw [putF_len, putF_len]; exact h16)) (by decide) (And.intro rfl (And.intro trivial ⟨rfl, rfl, rfl⟩)))))
theorem nI_lt_inv {n b : Nat} {c : Int32} (hn : n < 2 ^ 31) (hc : c.toInt = b) (h : nI n < c) : n < b := by
  have y := Int32.lt_iff_toInt_lt.mp h
  rw [nI_toInt hn, hc] at y
  omega
theorem KI.say (h : KI S nt ns nk ta) (hk : nk < 12) (s t u : Int32) : KI (S3 S s t u) nt ns (nk + 1) ta := by
  have q' := h.row (i := 16) (a := putF (putF (putF (S.2 16) (Int32.ofInt 3 * S.1 134) s) (Int32.ofInt 3 * S.1 134 + Int32.ofInt 1) t) (Int32.ofInt 3 * S.1 134 + Int32.ofInt 2) u) (by decide) (by rw [putF_len, putF_len, putF_len]; exact h.1.1 16)
  obtain ⟨⟨c1, c2, c3, c4, c5, c6, c7⟩, r2⟩ := q'
  have c6 : S.1 134 = nI nk := c6
  exact ⟨⟨c1, c2, c3, c4, c5, (by show S.1 134 + Int32.ofInt 1 = nI (nk + 1); rw [c6]; exact nI_1 nk), by omega⟩, r2⟩
set_option maxRecDepth 100000 in
theorem K_say (h : KC S) (s t u : Int32) : Ctr l 2 X sgX7_say [.ref 0, .int s, .int t, .int u] (encC S ++ T) (fun h w => (∃ S, KC S ∧ h = encC S ++ T) ∧ ∃ v, w = some (.int v)) := by
  obtain ⟨nt, ns, nk, ta, q⟩ := id h
  have hL := h.len
  have hk : S.1 134 = nI nk := q.1.2.2.2.2.2.1
  have h12 : nk ≤ 12 := q.1.2.2.2.2.2.2
  refine Ctr.of okX7_say rfl (Nat.le_of_ble_eq_true rfl) (run_sound okX7_say noCut 200 ?_)
  refine kH (c_isSpeaker s) (by decide) (brB' (fun _ => lk h) (fun _ => kH (c_isText t) (by decide) (brB' (fun _ => lk h) (fun _ => kH (c_isBelow u 2) (by decide) (brB' (fun _ => lk h) (fun _ => br (fun y => kH (c_append hL s t u y) (by decide) ?_) (fun y => lk h)))))))
  have y : S.1 134 < 12 := y
  rw [hk] at y
  exact ⟨⟨S3 S s t u, ⟨nt, ns, nk + 1, ta, q.say (nI_lt_inv (by omega) (by decide) y) s t u⟩, rfl⟩, _, rfl⟩
set_option maxRecDepth 100000 in
theorem K_unsay (h : KC S) : Ctr l 2 X sgX7_unsay [.ref 0] (encC S ++ T) (kcQ T) := by
  obtain ⟨nt, ns, nk, ta, q⟩ := id h
  have hk : S.1 134 = nI nk := q.1.2.2.2.2.2.1
  have h12 : nk ≤ 12 := q.1.2.2.2.2.2.2
  refine Ctr.of okX7_unsay rfl (Nat.le_of_ble_eq_true rfl) (run_sound okX7_unsay noCut 200 ?_)
  refine br (fun y => And.intro rfl (And.intro trivial ⟨⟨cN S 134 (S.1 134 - Int32.ofInt 1), ?_, rfl⟩, _, rfl⟩)) (fun _ => lk h)
  have h1 : 1 ≤ nk := Nat.pos_of_ne_zero (fun z => by
    have y : (0 : Int32) < S.1 134 := y
    rw [hk, z] at y
    exact absurd y (by decide))
  obtain ⟨⟨c1, c2, c3, c4, c5, c6, c7⟩, r2⟩ := q
  exact ⟨nt, ns, nk - 1, ta, ⟨c1, c2, c3, c4, c5, (by show S.1 134 - Int32.ofInt 1 = nI (nk - 1); rw [c6]; exact nI_m1 h1), by omega⟩, r2⟩
set_option maxRecDepth 100000 in
theorem c_holds (hL : CLen S) (s i : Int32) : Ans l 1 X sgX3_holds [.ref 21, .int s, .int i] (encC S ++ T) (bI (0 ≤ i ∧ i < atF (S.2 23) s)) := by
  refine Ctr.of okX3_holds rfl (Nat.le_of_ble_eq_true rfl) (run_sound okX3_holds noCut 200 ?_)
  exact kH (c_at (xs := S.2 23) rfl (hL.lt 23)) (by decide) (kH (c_isBelow _ _) (by decide) ⟨nar_bI, rfl, rfl⟩)
abbrev hrP (S : CS) (s i n : Int32) : Prop := ¬ n < 0 ∧ ¬ i < 0 ∧ n ≤ atF (S.2 23) s ∧ i ≤ atF (S.2 23) s - n
set_option maxRecDepth 100000 in
theorem c_holdsRun (hL : CLen S) (s i n : Int32) : Ans l 1 X sgX3_holdsRun [.ref 21, .int s, .int i, .int n] (encC S ++ T) (bI (hrP S s i n)) := by
  refine Ctr.of okX3_holdsRun rfl (Nat.le_of_ble_eq_true rfl) (run_sound okX3_holdsRun noCut 200 ?_)
  refine br (fun y => ⟨rfl, rfl, some_int (bIe0 (fun z => z.1 y))⟩) (fun y1 => br (fun y => ⟨rfl, rfl, some_int (bIe0 (fun z => z.2.1 y))⟩) (fun y2 => kH (c_at (xs := S.2 23) rfl (hL.lt 23)) (by decide) (br (fun y => ⟨rfl, rfl, some_int (bIe0 (fun z => absurd y (Int32.not_lt.mpr z.2.2.1)))⟩) (fun y3 => kH (c_at (xs := S.2 23) rfl (hL.lt 23)) (by decide) (br (fun y => ⟨rfl, rfl, some_int (bIe0 (fun z => absurd y (Int32.not_lt.mpr z.2.2.2)))⟩) (fun y4 => ⟨rfl, rfl, some_int (bIe1 ⟨y1, y2, Int32.not_lt.mp y3, Int32.not_lt.mp y4⟩)⟩))))))
set_option maxRecDepth 100000 in
theorem c_read (hL : CLen S) (s i : Int32) : Ans l 1 X sgX3_read [.ref 21, .int s, .int i] (encC S ++ T) (atF (S.2 24) (s * Int32.ofInt 40 + i)) := by
  refine Ctr.of okX3_read rfl (Nat.le_of_ble_eq_true rfl) (run_sound okX3_read noCut 200 ?_)
  exact kH (c_at (xs := S.2 24) rfl (hL.lt 24)) (by decide) ⟨rfl, rfl⟩
def wrV (S : CS) (s v : Int32) : Int32 := if atF (S.2 22) s = 0 then v.toInt8.toInt32 else if atF (S.2 22) s = 1 then v.toInt16.toInt32 else v
abbrev wrS (S : CS) (s i v : Int32) : CS := cR S 24 (putF (S.2 24) (s * Int32.ofInt 40 + i) (wrV S s v))
set_option maxRecDepth 100000 in
theorem c_write (hL : CLen S) (s i v : Int32) : Ctr l 1 X sgX3_write [.ref 21, .int s, .int i, .int v] (encC S ++ T) (fun h w => h = encC (wrS S s i v) ++ T ∧ w = none) := by
  refine Ctr.of okX3_write rfl (Nat.le_of_ble_eq_true rfl) (run_sound okX3_write (fun i => Nat.beq i 17) 200 ?_)
  have t17 : ∀ x, x = wrV S s v → WP l (rmD 1 0 0) X sgX3_write kX3_write (fun h w => h = encC (wrS S s i v) ++ T ∧ w = none) 17 [some (.ref 21), some (.int s), some (.int i), some (.int v), some (.int (atF (S.2 22) s)), none] [.int x] (encC S ++ T) 0 0 := by
    intro x hx
    subst hx
    exact run_sound okX3_write noCut 200 (kH (c_put (xs := S.2 24) rfl rfl (hL.lt 24)) (by decide) ⟨rfl, rfl, rfl⟩)
  exact kH (c_at (xs := S.2 22) rfl (hL.lt 22)) (by decide) (br (fun y => t17 _ (if_pos y).symm) (fun y => br (fun y2 => t17 _ ((if_neg y).trans (if_pos y2)).symm) (fun y2 => t17 _ ((if_neg y).trans (if_neg y2)).symm)))
theorem KC.write (h : KC S) (s i v : Int32) : KC (wrS S s i v) := by
  obtain ⟨nt, ns, nk, ta, q⟩ := h
  exact ⟨nt, ns, nk, ta, q.row (by decide) (by rw [putF_len]; exact q.1.1 24)⟩
set_option maxRecDepth 100000 in
theorem K_cell (h : KC S) (s i v : Int32) : Ctr l 2 X sgX7_cell [.ref 0, .int s, .int i, .int v] (encC S ++ T) (kcQ T) := by
  have hL := h.len
  refine Ctr.of okX7_cell rfl (Nat.le_of_ble_eq_true rfl) (run_sound okX7_cell noCut 200 ?_)
  exact kH (c_isBelow s 4) (by decide) (brB' (fun _ => lk h) (fun _ => kH (c_isMissing hL s) (by decide) (brB' (fun _ => kH (c_holds hL s i) (by decide) (brB' (fun _ => lk h) (fun _ => kH (c_write hL s i v) (by decide) (lk (h.write s i v))))) (fun _ => lk h))))
set_option maxRecDepth 100000 in
theorem c_isOneOf (a b : Int32) : Ctr l 0 X sgX7_isOneOf [.int a, .int b] hp (fun h w => h = hp ∧ ∃ v : Int32, w = some (.int v)) := by
  refine Ctr.of okX7_isOneOf rfl (Nat.le_of_ble_eq_true rfl) (run_sound okX7_isOneOf noCut 200 ?_)
  have y : ∀ v : Int32, (hp = hp ∧ ∃ w : Int32, some (Value.int v) = some (.int w)) := fun v => ⟨rfl, v, rfl⟩
  exact br (fun _ => ⟨rfl, y 1⟩) (fun _ => br (fun _ => ⟨rfl, y 1⟩) (fun _ => br (fun _ => br (fun _ => ⟨rfl, y 1⟩) (fun _ => br (fun _ => br (fun _ => ⟨rfl, y 1⟩) (fun _ => ⟨rfl, y 0⟩)) (fun _ => ⟨rfl, y 0⟩))) (fun _ => br (fun _ => br (fun _ => ⟨rfl, y 1⟩) (fun _ => ⟨rfl, y 0⟩)) (fun _ => ⟨rfl, y 0⟩))))
abbrev anQ (h0 : AH) : AH → Option Value → Prop := fun h w => h = h0 ∧ ∃ v : Int32, w = some (.int v)
theorem any {h0 : AH} (v : Int32) : anQ h0 h0 (some (.int v)) := ⟨rfl, v, rfl⟩
set_option maxRecDepth 100000 in
theorem c_sayingTaken (hL : CLen S) (i k : Int32) : Ctr l 2 X sgX7_sayingTaken [.ref 0, .int i, .int k] (encC S ++ T) (anQ (encC S ++ T)) := by
  refine Ctr.of okX7_sayingTaken rfl (Nat.le_of_ble_eq_true rfl) (run_sound okX7_sayingTaken noCut 200 ?_)
  exact br (fun _ => br (fun _ => kH (c_sayingPart hL i 2) (by decide) (any _)) (fun _ => any _)) (fun _ => any _)
set_option maxRecDepth 100000 in
theorem c_speakerTaken (hL : CLen S) (i k : Int32) : Ctr l 2 X sgX7_speakerTaken [.ref 0, .int i, .int k] (encC S ++ T) (anQ (encC S ++ T)) := by
  refine Ctr.of okX7_speakerTaken rfl (Nat.le_of_ble_eq_true rfl) (run_sound okX7_speakerTaken noCut 200 ?_)
  refine br (fun _ => kH (c_at (xs := S.2 14) rfl (hL.lt 14)) (by decide) ⟨0, _, by decide, c_isOneOf _ _, ?_⟩) (fun _ => any _)
  rintro hp' w ⟨rfl, v, rfl⟩
  exact br (fun _ => any _) (fun _ => any _)
set_option maxRecDepth 100000 in
theorem K_taken (h : KC S) (i k : Int32) : Ctr l 3 X sgX7_taken [.ref 0, .int i, .int k] (encC S ++ T) (kqQ S T) := by
  have hL := h.len
  refine Ctr.of okX7_taken rfl (Nat.le_of_ble_eq_true rfl) (run_sound okX7_taken noCut 200 ?_)
  refine kH (c_isBelow k 7) (by decide) (brB' (fun _ => lq h) (fun _ => kH (c_isBelow i 17) (by decide) (brB' (fun _ => lq h) (fun _ => br (fun _ => ⟨2, _, by decide, c_speakerTaken hL _ _, ?_⟩) (fun _ => ⟨2, _, by decide, c_sayingTaken hL _ _, ?_⟩)))))
  · rintro hp' w ⟨rfl, v, rfl⟩
    exact lq h
  · rintro hp' w ⟨rfl, v, rfl⟩
    exact lq h
end KCALL
end
section
-- 95.kcall2
/-! THE CLASS in general: texts, sheets made, images -/
section KCALL2
variable {l : Launch} {X : List (List Int32)} {S : CS} {T : AH} {hp : AH} {nt ns nk ta : Nat}
theorem putF_0 {st : List Int32} {k : Nat} {v : Int32} (hk : k < 100) : (putF st (nI k + 1) v).getD 0 0 = st.getD 0 0 := by
  unfold putF
  split
  · rw [nI_1, nI_clamp (by omega), getD_set_ne (by omega)]
  · rfl
theorem rtP_keep (orf : GF) (tp : List Int32) (t : Nat) : ∀ (m k : Nat) (p : PS) (st : List Int32), m + k ≤ 3 → (rtP orf tp t m k p st).2.2.length = st.length ∧ (rtP orf tp t m k p st).2.2.getD 0 0 = st.getD 0 0
  | 0, _, _, _, _ => ⟨rfl, rfl⟩
  | m + 1, k, p, st, h => by
    rw [rtP]
    split
    · split
      · split
        · have ih := rtP_keep orf tp t m (k + 1) (advP tp t (orf (advP tp t p)).2) (putF st (nI k + 1) (nI (orf (advP tp t p)).2.2.length)) (by omega)
          rw [putF_len, putF_0 (by omega)] at ih
          exact ih
        · exact ⟨putF_len, putF_0 (by omega)⟩
      · exact ⟨rfl, rfl⟩
    · exact ⟨rfl, rfl⟩
theorem txS_K (h : KI S nt ns nk ta) {t : Nat} {r4 r5 : List Int32} {c : List (Int32 × Int32)} (hcr : CR r4 r5 c) : KI (txS S t r4 r5) nt ns nk 0 := by
  obtain ⟨⟨hL, h1⟩, ⟨t4, t5, t6, t60, t7⟩, h3, h4⟩ := h
  have hk := rtP_keep (lvP (S.2 2) t 5).1 (S.2 2) t 3 0 (lexF (S.2 2) t 0, []) (S.2 6) (by decide)
  have hk : (RT S t).2.2.length = (S.2 6).length ∧ (RT S t).2.2.getD 0 0 = (S.2 6).getD 0 0 := hk
  unfold txS
  generalize RT S t = W at hk
  refine ⟨⟨pS_len (n := W.2.1.2.length) (cR6_len hL (by rw [hk.1, t6]; decide)) hcr.1 hcr.2.1, h1⟩, ?_, ⟨rfl, Nat.zero_le _⟩, h4⟩
  exact ⟨hcr.1, hcr.2.1, hk.1.trans t6, hk.2.trans t60, t7⟩
theorem okS_K (h : KI S nt ns nk ta) (hn : nt < 6) {t : Nat} {r4 r5 r7 : List Int32} {m : Int32} {c : List (Int32 × Int32)} (hcr : CR r4 r5 c) (h7 : r7.length = 160) : KI (okS S t r4 r5 r7 m) (nt + 1) ns nk 0 := by
  have q := txS_K h (t := t) hcr
  obtain ⟨⟨hL, c2, c3, c4⟩, ⟨t4, t5, t6, t60, t7⟩, h3, h4⟩ := q
  have h93 : S.1 93 = nI nt := h.1.2.1
  have hL2 : CLen (addX (txS S t r4 r5) (RT S t).2.1.2 5) := addX_len hL 5
  refine ⟨⟨hL2.row 7 r7 (by rw [h7]; decide), ?_, by omega, c4⟩, ⟨t4, t5, t6, t60, h7⟩, h3, h4⟩
  show S.1 93 + 1 = nI (nt + 1)
  rw [h93, nI_1]
theorem K_text (h : KC S) : Ctr l 55 X sgX7_text [.ref 0] (encC S ++ T) (kcQ T) := by
  obtain ⟨nt, ns, nk, ta, q⟩ := id h
  refine (c_text q.1.1 q.2.1 q.2.2.1.1 q.2.2.1.2 q.1.2.1 q.1.2.2.1.2).weak ?_
  rintro hp w ⟨h6, hlt⟩
  have hn6 := q.1.2.2.1.2
  by_cases e : nt = 6
  · obtain ⟨rfl, rfl⟩ := h6 e
    exact lk h
  · obtain ⟨r4, r5, hcr, hf, ht⟩ := hlt (by omega)
    cases hb : (RT S ta).1 with
    | false =>
      obtain ⟨rfl, rfl⟩ := hf hb
      exact ⟨⟨_, ⟨nt, ns, nk, 0, txS_K q hcr⟩, rfl⟩, _, rfl⟩
    | true =>
      obtain ⟨-, r7, m, h7, rfl, rfl⟩ := ht hb
      exact ⟨⟨_, ⟨nt + 1, ns, nk, 0, okS_K q (by omega) hcr h7⟩, rfl⟩, _, rfl⟩
theorem made_K (h : KI S nt ns nk ta) {a b c : List Int32} (ha : a.length ≤ 1000) (hb : b.length ≤ 1000) (hc : c.length ≤ 1000) : KI (cR (cR (cR S 22 a) 23 b) 24 c) nt ns nk ta := (h.rows (by decide) (by decide) ha hb).row (by decide) hc
set_option maxRecDepth 100000 in
theorem K_make (h : KC S) (s sort n : Int32) : Ctr l 1 X sgX3_make [.ref 21, .int s, .int sort, .int n] (encC S ++ T) (fun h w => (∃ S', KC S' ∧ S'.1 134 = S.1 134 ∧ h = encC S' ++ T) ∧ w = none) := by
  obtain ⟨nt, ns, nk, ta, q⟩ := id h
  have hL := h.len
  refine (c_make hL s sort n).weak ?_
  rintro hp w ⟨⟨c, hc, rfl⟩, rfl⟩
  exact ⟨⟨_, ⟨nt, ns, nk, ta, made_K q (by rw [putF_len]; exact hL 22) (by rw [putF_len]; exact hL 23) (by rw [hc]; exact hL 24)⟩, rfl, rfl⟩, rfl⟩
abbrev ksQ (T : AH) (v : Int32) : AH → Option Value → Prop := fun h w => (∃ S, KC S ∧ h = encC S ++ T) ∧ w = some (.int v)
theorem lks (h : KC S) {a b : Int32} (e : a = b) : ksQ T b (encC S ++ T) (some (.int a)) := ⟨⟨S, h, rfl⟩, some_int e⟩
set_option maxRecDepth 100000 in
theorem K_sheet (h : KC S) (s sort n : Int32) : Ctr l 2 X sgX7_sheet [.ref 0, .int s, .int sort, .int n] (encC S ++ T) (ksQ T (shtA s sort n)) := by
  refine Ctr.of okX7_sheet rfl (Nat.le_of_ble_eq_true rfl) (run_sound okX7_sheet noCut 200 ?_)
  refine kH (k_B s 4 3 (by decide)) (by decide) (brB' (fun q => lks h (if_neg (fun z => q z.1)).symm) (fun q => br (fun h1 => lks h (if_neg (fun z => absurd h1 (Int32.not_lt.mpr z.2.1.1))).symm) (fun h1 => br (fun h2 => ?_) (fun h2 => lks h (if_neg (fun z => h2 z.2.1.2)).symm))))
  have q2 : m2P sort := ⟨Int32.not_lt.mp h1, h2⟩
  refine br (fun h3 => ⟨1, _, by decide, K_make h _ _ _, ?_⟩) (fun h3 => br (fun h4 => br (fun h5 => ⟨1, _, by decide, K_make h _ _ _, ?_⟩) (fun h5 => lks h ?_)) (fun h4 => lks h ?_))
  · rintro hp' w ⟨⟨S', hS', -, rfl⟩, rfl⟩
    exact lks hS' ((if_pos ⟨q, q2, Or.inl h3⟩).trans (if_neg (fun z => z.1 h3))).symm
  · rintro hp' w ⟨⟨S', hS', -, rfl⟩, rfl⟩
    exact lks hS' ((if_pos ⟨q, q2, Or.inr h4⟩).trans (if_neg (fun z => absurd z.2 (Int32.not_lt.mpr h5)))).symm
  · exact ((if_pos ⟨q, q2, Or.inr h4⟩).trans (if_pos ⟨h3, Int32.not_le.mp h5⟩)).symm
  · exact (if_neg (fun z => z.2.2.elim h3 h4)).symm
theorem KC.s12 (h : KC S) : ∃ n : Nat, n ≤ 12 ∧ S.1 134 = nI n := let ⟨_, _, nk, _, q⟩ := h; ⟨nk, q.1.2.2.2.2.2.2, q.1.2.2.2.2.2.1⟩
set_option maxRecDepth 100000 in
theorem K_film (h : KC S) (s : Int32) : Ctr l 2 X sgX7_film [.ref 0, .int s] (encC S ++ T) (kcQ T) := by
  obtain ⟨m, hm, em⟩ := h.s12
  refine Ctr.of okX7_film rfl (Nat.le_of_ble_eq_true rfl) (run_sound okX7_film (fun i => Nat.beq i 18) 200 ?_)
  refine kH (k_B s 4 3 (by decide)) (by decide) (brB' (fun q => lk h) (fun q => ⟨1, _, by decide, K_make h _ _ _, ?_⟩))
  rintro hp' w ⟨⟨S', hS', e', rfl⟩, rfl⟩
  have out : ∀ k, k ≤ m → ∀ (S : CS), KC S → S.1 134 = nI m → ∀ x, WP l (rmD 2 0 0) X sgX7_film kX7_film (kcQ T) 18 [some (.ref 0), some (.int s), some (.int (nI k)), x] [] (encC S ++ T) 0 0 := by
    refine down (fun S hS hn x => ?_) (fun k hk ih S hS hn x => ?_)
    · refine run_sound okX7_film (fun i => Nat.beq i 18) 200 (brT ?_ (lk hS))
      show S.1 134 ≤ nI m
      rw [hn]
      exact Int32.le_refl _
    · have inn : ∀ j, j ≤ 3 → ∀ (S : CS), KC S → S.1 134 = nI m → WP l (rmD 2 0 0) X sgX7_film kX7_film (kcQ T) 25 [some (.ref 0), some (.int s), some (.int (nI k)), some (.int (nI j))] [] (encC S ++ T) 0 0 := by
        refine down (fun S hS hn => ?_) (fun j hj ih2 S hS hn => ?_)
        · have ih := ih S hS hn (some (.int (nI 3)))
          rw [← nI_1 k] at ih
          exact run_sound okX7_film (fun i => Nat.beq i 18) 200 (brT (Int32.le_refl _) ih)
        · have ih2 := ih2 (wrS S s (Int32.ofInt 3 * nI k + nI j) (partF S (nI k) (nI j))) (hS.write _ _ _) hn
          rw [← nI_1 j] at ih2
          exact run_sound okX7_film (fun i => Nat.beq i 25) 200 (brF (ge_no (n := 3) rfl hj (by decide)) (kH (c_sayingPart hS.len (nI k) (nI j)) (by decide) (kH (c_write hS.len _ _ _) (by decide) ih2)))
      refine run_sound okX7_film (fun i => Nat.beq i 25) 200 (brF ?_ (inn 0 (Nat.zero_le _) S hS hn))
      show ¬ S.1 134 ≤ nI k
      rw [hn]
      exact nI_ge hk (by omega)
  exact out 0 (Nat.zero_le _) S' hS' (e'.trans em) none
end KCALL2
end
section
-- 96.kcall3
/-! THE CLASS in general: copies, sayings by a sheet, images -/
section KCALL3
variable {l : Launch} {X : List (List Int32)} {S : CS} {T : AH} {hp : AH} {nt ns nk ta : Nat}
theorem i32_nat {n : Int32} (h : ¬ n ≤ 0) : ∃ m : Nat, m < 2 ^ 31 ∧ n = nI m := by
  have h1 := Int32.lt_iff_toInt_lt.mp (Int32.not_le.mp h)
  have e0 : (0 : Int32).toInt = 0 := by decide
  have h2 : n.toInt < 2 ^ 31 := Int32.toInt_lt n
  refine ⟨n.toInt.toNat, by omega, Int32.toInt_inj.mp ?_⟩
  rw [nI_toInt (by omega)]
  omega
theorem KC.row (h : KC S) {i : Nat} {a : List Int32} (hi : 8 ≤ i) (ha : a.length ≤ 1000) : KC (cR S i a) := by
  obtain ⟨nt, ns, nk, ta, q⟩ := h
  exact ⟨nt, ns, nk, ta, q.row hi ha⟩
abbrev kvQ (T : AH) : AH → Option Value → Prop := fun h w => (∃ S, KC S ∧ h = encC S ++ T) ∧ w = none
def cNmv (i : Nat) : Bool := Nat.beq i 2 || Nat.beq i 19
set_option maxRecDepth 100000 in
theorem K_move (h : KC S) (s i o j n : Int32) : Ctr l 2 X sgX3_move [.ref 21, .int s, .int i, .int o, .int j, .int n] (encC S ++ T) (kvQ T) := by
  refine Ctr.of okX3_move rfl (Nat.le_of_ble_eq_true rfl) (run_sound okX3_move cNmv 200 ?_)
  by_cases h0 : n ≤ 0
  · have t19 : WP l (rmD 2 0 0) X sgX3_move kX3_move (kvQ T) 19 [some (.ref 21), some (.int s), some (.int i), some (.int o), some (.int j), some (.int n), some (.int 0)] [] (encC S ++ T) 0 0 :=
      run_sound okX3_move cNmv 200 (brT h0 ⟨rfl, lk0 h, rfl⟩)
    exact run_sound okX3_move cNmv 200 (brT h0 t19)
  · obtain ⟨m, hm, rfl⟩ := i32_nat h0
    have l2 : ∀ k, k ≤ m → ∀ S, KC S → WP l (rmD 2 0 0) X sgX3_move kX3_move (kvQ T) 19 [some (.ref 21), some (.int s), some (.int i), some (.int o), some (.int j), some (.int (nI m)), some (.int (nI k))] [] (encC S ++ T) 0 0 := by
      refine down (fun S hS => ?_) (fun k hk ih S hS => ?_)
      · exact run_sound okX3_move cNmv 200 (brT (Int32.le_refl _) ⟨rfl, lk0 hS, rfl⟩)
      · have ih := ih (wrS S o (j + nI k) (atF (S.2 25) (nI k))) (hS.write _ _ _)
        rw [← nI_1 k] at ih
        exact run_sound okX3_move cNmv 200 (brF (nI_ge hk hm) (kH (c_at (xs := S.2 25) rfl (hS.len.lt 25)) (by decide) (kH (c_write hS.len _ _ _) (by decide) ih)))
    have l1 : ∀ k, k ≤ m → ∀ S, KC S → WP l (rmD 2 0 0) X sgX3_move kX3_move (kvQ T) 2 [some (.ref 21), some (.int s), some (.int i), some (.int o), some (.int j), some (.int (nI m)), some (.int (nI k))] [] (encC S ++ T) 0 0 := by
      refine down (fun S hS => ?_) (fun k hk ih S hS => ?_)
      · exact run_sound okX3_move cNmv 200 (brT (Int32.le_refl _) (l2 0 (Nat.zero_le _) S hS))
      · have ih := ih (cR S 25 (putF (S.2 25) (nI k) (atF (S.2 24) (s * Int32.ofInt 40 + (i + nI k))))) (hS.row (by decide) (by rw [putF_len]; exact hS.len 25))
        rw [← nI_1 k] at ih
        exact run_sound okX3_move cNmv 200 (brF (nI_ge hk hm) (kH (c_read hS.len _ _) (by decide) (kH (c_put (xs := S.2 25) rfl rfl (hS.len.lt 25)) (by decide) ih)))
    exact l1 0 (Nat.zero_le _) S h
set_option maxRecDepth 100000 in
theorem K_copy (h : KC S) (s i o j n : Int32) : Ctr l 3 X sgX7_copy [.ref 0, .int s, .int i, .int o, .int j, .int n] (encC S ++ T) (kcQ T) := by
  have hL := h.len
  refine Ctr.of okX7_copy rfl (Nat.le_of_ble_eq_true rfl) (run_sound okX7_copy (fun i => Nat.beq i 20 || Nat.beq i 49) 200 ?_)
  have t20 : WP l (rmD 3 0 0) X sgX7_copy kX7_copy (kcQ T) 20 [some (.ref 0), some (.int s), some (.int i), some (.int o), some (.int j), some (.int n)] [] (encC S ++ T) 0 0 := run_sound okX7_copy noCut 200 (lk h)
  have t49 : WP l (rmD 3 0 0) X sgX7_copy kX7_copy (kcQ T) 49 [some (.ref 0), some (.int s), some (.int i), some (.int o), some (.int j), some (.int n)] [] (encC S ++ T) 0 0 := run_sound okX7_copy noCut 200 (lk h)
  refine kH (c_isBelow s 4) (by decide) (brB' (fun _ => lk h) (fun _ => kH (c_isBelow o 4) (by decide) (brB' (fun _ => lk h) (fun _ => kH (c_isMissing hL s) (by decide) (brB' (fun _ => kH (c_isMissing hL o) (by decide) (brB' (fun _ => ?_) (fun _ => t20))) (fun _ => t20))))))
  refine kH (c_at (xs := S.2 22) rfl (hL.lt 22)) (by decide) (kH (c_at (xs := S.2 22) rfl (hL.lt 22)) (by decide) (br (fun _ => ?_) (fun _ => lk h)))
  refine kH (c_holdsRun hL s i n) (by decide) (brB' (fun _ => t49) (fun _ => kH (c_holdsRun hL o j n) (by decide) (brB' (fun _ => t49) (fun _ => ⟨2, _, by decide, K_move h s i o j n, ?_⟩))))
  rintro hp' w ⟨⟨S', hS', rfl⟩, rfl⟩
  exact lk hS'
theorem p3_or {n c : Int32} {z : Nat} (h0 : ¬ n < 0) (h1 : n ≤ c) (hc : c.toInt = z) (hz : z < 2 ^ 31) : ∃ k : Nat, k ≤ z ∧ n = nI k := by
  have g0 := Int32.le_iff_toInt_le.mp (Int32.not_lt.mp h0)
  have g1 := Int32.le_iff_toInt_le.mp h1
  have e0 : (0 : Int32).toInt = 0 := by decide
  refine ⟨n.toInt.toNat, by omega, Int32.toInt_inj.mp ?_⟩
  rw [nI_toInt (by omega)]
  omega
def cNsy (i : Nat) : Bool := Nat.beq i 9 || Nat.beq i 16 || Nat.beq i 38
set_option maxRecDepth 100000 in
theorem K_sayingsBy (h : KC S) (s sort fr n : Int32) : Ctr l 3 X sgX7_sayingsBy [.ref 0, .int s, .int sort, .int fr, .int n] (encC S ++ T) (kcQ T) := by
  have hL := h.len
  refine Ctr.of okX7_sayingsBy rfl (Nat.le_of_ble_eq_true rfl) (run_sound okX7_sayingsBy cNsy 200 ?_)
  have t9 : WP l (rmD 3 0 0) X sgX7_sayingsBy kX7_sayingsBy (kcQ T) 9 [some (.ref 0), some (.int s), some (.int sort), some (.int fr), some (.int n), none, none, none] [] (encC S ++ T) 0 0 := run_sound okX7_sayingsBy noCut 200 (lk h)
  have t16 : WP l (rmD 3 0 0) X sgX7_sayingsBy kX7_sayingsBy (kcQ T) 16 [some (.ref 0), some (.int s), some (.int sort), some (.int fr), some (.int n), none, none, none] [] (encC S ++ T) 0 0 := run_sound okX7_sayingsBy noCut 200 (lk h)
  refine kH (c_isBelow s 4) (by decide) (brB' (fun _ => t9) (fun _ => br (fun _ => t9) (fun _ => br (fun _ => ?_) (fun _ => t9))))
  refine br (fun _ => t16) (fun y1 => br (fun y2 => ?_) (fun _ => t16))
  obtain ⟨m, hm, rfl⟩ := p3_or (c := 12) (z := 12) y1 y2 (by decide) (by decide)
  refine kH (c_isMissing hL s) (by decide) (brB' (fun _ => kH (c_at (xs := S.2 22) rfl (hL.lt 22)) (by decide) (br (fun _ => ?_) (fun _ => lk h))) (fun _ => lk h))
  have key : ∀ k, k ≤ m → ∀ (S : CS), KC S → ∀ (x : Int32) x7, WP l (rmD 3 0 0) X sgX7_sayingsBy kX7_sayingsBy (kcQ T) 38 [some (.ref 0), some (.int s), some (.int sort), some (.int fr), some (.int (nI m)), some (.int x), some (.int (nI k)), x7] [] (encC S ++ T) 0 0 := by
    refine down (fun S hS x x7 => ?_) (fun k hk ih S hS x x7 => ?_)
    · exact run_sound okX7_sayingsBy cNsy 200 (brT (Int32.le_refl _) (lk hS))
    · have hL := hS.len
      refine run_sound okX7_sayingsBy cNsy 200 (brF (nI_ge hk (by omega)) (kH (c_holdsRun hL _ _ _) (by decide) (brB' (fun _ => lk hS) (fun _ => kH (c_read hL _ _) (by decide) (kH (c_read hL _ _) (by decide) (kH (c_read hL _ _) (by decide) ⟨2, _, by decide, K_say hS _ _ _, ?_⟩))))))
      rintro hp' w ⟨⟨S', hS', rfl⟩, v, rfl⟩
      rw [← nI_1 k] at ih
      exact br (fun _ => ih S' hS' _ _) (fun _ => ih S' hS' _ _)
  exact key 0 (Nat.zero_le _) S h _ _
abbrev kepS (S : CS) (a b c : List Int32) : CS := cN (cN (cN (cR (cR (cR S 18 a) 19 b) 20 c) 173 (S.1 133)) 174 (S.1 134)) 175 (S.1 135)
abbrev bakS (S : CS) (a b c : List Int32) : CS := cN (cN (cN (cR (cR (cR S 14 a) 15 b) 16 c) 133 (S.1 173)) 134 (S.1 174)) 135 (S.1 175)
abbrev likQ (T : AH) (f : List Int32 → List Int32 → List Int32 → CS) : AH → Option Value → Prop := fun h w => (∃ a b c : List Int32, a.length ≤ 1000 ∧ b.length ≤ 1000 ∧ c.length ≤ 1000 ∧ h = encC (f a b c) ++ T) ∧ w = none
theorem len2 (hL : CLen S) {i j : Nat} {a b : List Int32} (ha : a.length ≤ 1000) (hb : b.length ≤ 1000) : CLen (cR (cR S i a) j b) := (hL.row i a ha).row j b hb
def cNli (i : Nat) : Bool := Nat.beq i 5 || Nat.beq i 23
set_option maxRecDepth 100000 in
set_option maxHeartbeats 1000000 in
theorem c_keepL (hL : CLen S) : Ctr l 2 X sgX4_becomeLike [.ref 17, .ref 13] (encC S ++ T) (likQ T (kepS S)) := by
  refine Ctr.of okX4_becomeLike rfl (Nat.le_of_ble_eq_true rfl) (run_sound okX4_becomeLike cNli 200 ?_)
  have k2 : ∀ j, j ≤ 36 → ∀ a b c : List Int32, a.length ≤ 1000 → b.length ≤ 1000 → c.length ≤ 1000 → WP l (rmD 2 0 0) X sgX4_becomeLike kX4_becomeLike (likQ T (kepS S)) 23 [some (.ref 17), some (.ref 13), some (.int (nI j))] [] (encC (cR (cR (cR S 18 a) 19 b) 20 c) ++ T) 0 0 := by
    refine down (fun a b c ha hb hc => ?_) (fun j hj ih a b c ha hb hc => ?_)
    · exact run_sound okX4_becomeLike cNli 200 (brT (Int32.le_refl _) (And.intro trivial (And.intro trivial (And.intro trivial ⟨rfl, ⟨a, b, c, ha, hb, hc, rfl⟩, rfl⟩))))
    · refine run_sound okX4_becomeLike cNli 200 (brF (ge_no (n := 36) rfl hj (by decide)) (kH (c_at (xs := S.2 16) rfl (hL.lt 16)) (by decide) (kH (c_put (xs := c) rfl rfl (Nat.lt_of_le_of_lt hc (by decide))) (by decide) ?_)))
      have ih := ih a b (putF c (nI j) (atF (S.2 16) (nI j))) ha hb (by rw [putF_len]; exact hc)
      rw [← nI_1 j] at ih
      exact ih
  have k1 : ∀ j, j ≤ 5 → ∀ a b : List Int32, a.length ≤ 1000 → b.length ≤ 1000 → WP l (rmD 2 0 0) X sgX4_becomeLike kX4_becomeLike (likQ T (kepS S)) 5 [some (.ref 17), some (.ref 13), some (.int (nI j))] [] (encC (cR (cR S 18 a) 19 b) ++ T) 0 0 := by
    refine down (fun a b ha hb => ?_) (fun j hj ih a b ha hb => ?_)
    · exact run_sound okX4_becomeLike cNli 200 (brT (Int32.le_refl _) (k2 0 (Nat.zero_le _) a b (S.2 20) ha hb (hL 20)))
    · refine run_sound okX4_becomeLike cNli 200 (brF (ge_no (n := 5) rfl hj (by decide)) (kH (c_at (xs := S.2 14) rfl (hL.lt 14)) (by decide) (kH (c_at (xs := S.2 15) rfl (hL.lt 15)) (by decide) (kH (c_become17 (len2 hL ha hb) _ _ _) (by decide) ?_))))
      have ih := ih (putF a (nI j) (atF (S.2 14) (nI j))) (putF b (nI j) (atF (S.2 15) (nI j))) (by rw [putF_len]; exact ha) (by rw [putF_len]; exact hb)
      rw [← nI_1 j] at ih
      exact ih
  exact k1 0 (Nat.zero_le _) (S.2 18) (S.2 19) (hL 18) (hL 19)
set_option maxRecDepth 100000 in
set_option maxHeartbeats 1000000 in
theorem c_backL (hL : CLen S) : Ctr l 2 X sgX4_becomeLike [.ref 13, .ref 17] (encC S ++ T) (likQ T (bakS S)) := by
  refine Ctr.of okX4_becomeLike rfl (Nat.le_of_ble_eq_true rfl) (run_sound okX4_becomeLike cNli 200 ?_)
  have k2 : ∀ j, j ≤ 36 → ∀ a b c : List Int32, a.length ≤ 1000 → b.length ≤ 1000 → c.length ≤ 1000 → WP l (rmD 2 0 0) X sgX4_becomeLike kX4_becomeLike (likQ T (bakS S)) 23 [some (.ref 13), some (.ref 17), some (.int (nI j))] [] (encC (cR (cR (cR S 14 a) 15 b) 16 c) ++ T) 0 0 := by
    refine down (fun a b c ha hb hc => ?_) (fun j hj ih a b c ha hb hc => ?_)
    · exact run_sound okX4_becomeLike cNli 200 (brT (Int32.le_refl _) (And.intro trivial (And.intro trivial (And.intro trivial ⟨rfl, ⟨a, b, c, ha, hb, hc, rfl⟩, rfl⟩))))
    · refine run_sound okX4_becomeLike cNli 200 (brF (ge_no (n := 36) rfl hj (by decide)) (kH (c_at (xs := S.2 20) rfl (hL.lt 20)) (by decide) (kH (c_put (xs := c) rfl rfl (Nat.lt_of_le_of_lt hc (by decide))) (by decide) ?_)))
      have ih := ih a b (putF c (nI j) (atF (S.2 20) (nI j))) ha hb (by rw [putF_len]; exact hc)
      rw [← nI_1 j] at ih
      exact ih
  have k1 : ∀ j, j ≤ 5 → ∀ a b : List Int32, a.length ≤ 1000 → b.length ≤ 1000 → WP l (rmD 2 0 0) X sgX4_becomeLike kX4_becomeLike (likQ T (bakS S)) 5 [some (.ref 13), some (.ref 17), some (.int (nI j))] [] (encC (cR (cR S 14 a) 15 b) ++ T) 0 0 := by
    refine down (fun a b ha hb => ?_) (fun j hj ih a b ha hb => ?_)
    · exact run_sound okX4_becomeLike cNli 200 (brT (Int32.le_refl _) (k2 0 (Nat.zero_le _) a b (S.2 16) ha hb (hL 16)))
    · refine run_sound okX4_becomeLike cNli 200 (brF (ge_no (n := 5) rfl hj (by decide)) (kH (c_at (xs := S.2 18) rfl (hL.lt 18)) (by decide) (kH (c_at (xs := S.2 19) rfl (hL.lt 19)) (by decide) (kH (c_become13 (len2 hL ha hb) _ _ _) (by decide) ?_))))
      have ih := ih (putF a (nI j) (atF (S.2 18) (nI j))) (putF b (nI j) (atF (S.2 19) (nI j))) (by rw [putF_len]; exact ha) (by rw [putF_len]; exact hb)
      rw [← nI_1 j] at ih
      exact ih
  exact k1 0 (Nat.zero_le _) (S.2 14) (S.2 15) (hL 14) (hL 15)
set_option maxRecDepth 100000 in
theorem K_image (h : KC S) : Ctr l 3 X sgX7_image [.ref 0] (encC S ++ T) (kcQ T) := by
  obtain ⟨nt, ns, nk, ta, q⟩ := id h
  refine Ctr.of okX7_image rfl (Nat.le_of_ble_eq_true rfl) (run_sound okX7_image noCut 200 ⟨2, _, by decide, c_keepL h.len, ?_⟩)
  rintro hp' w ⟨⟨a, b, c, ha, hb, hc, rfl⟩, rfl⟩
  obtain ⟨c1, c2, c3, c4⟩ := (q.rows (i := 18) (j := 19) (a := a) (b := b) (by decide) (by decide) ha hb).row (i := 20) (a := c) (by decide) hc
  exact And.intro (Or.inr rfl) ⟨⟨cN (kepS S a b c) 8 1, ⟨nt, ns, nk, ta, c1, c2, c3, ns, nk, q.1.2.2.2.1, q.1.2.2.2.2.1, q.1.2.2.2.2.2.1, q.1.2.2.2.2.2.2⟩, rfl⟩, _, rfl⟩
set_option maxRecDepth 100000 in
theorem K_back (h : KC S) : Ctr l 3 X sgX7_back [.ref 0] (encC S ++ T) (kcQ T) := by
  obtain ⟨nt, ns, nk, ta, q⟩ := id h
  refine Ctr.of okX7_back rfl (Nat.le_of_ble_eq_true rfl) (run_sound okX7_back noCut 200 (br (fun _ => lk h) (fun _ => ⟨2, _, by decide, c_backL h.len, ?_⟩)))
  rintro hp' w ⟨⟨a, b, c, ha, hb, hc, rfl⟩, rfl⟩
  obtain ⟨⟨c1, c2, c3, c4, c5, c6, c7⟩, d2, d3, n1, n2, e1, b1, e2, b2⟩ := (q.rows (i := 14) (j := 15) (a := a) (b := b) (by decide) (by decide) ha hb).row (i := 16) (a := c) (by decide) hc
  exact ⟨⟨bakS S a b c, ⟨nt, n1, n2, ta, ⟨c1, c2, c3, e1, b1, e2, b2⟩, d2, d3, n1, n2, e1, b1, e2, b2⟩, rfl⟩, _, rfl⟩
end KCALL3
end
section
-- 97.kcall4
/-! THE CLASS in general: the tape, pairs, habits, texts' claims and marks -/
section KCALL4
variable {l : Launch} {X : List (List Int32)} {S : CS} {T : AH} {hp : AH} {nt ns nk ta : Nat}
theorem nle {a : Int32} {n : Nat} (e : a = nI n) : a ≤ nI n := by rw [e]; exact Int32.le_refl _
theorem nge {a : Int32} {n k : Nat} (e : a = nI n) (hk : k < n) (hn : n < 2 ^ 31) : ¬ a ≤ nI k := by rw [e]; exact nI_ge hk hn
theorem KI.tape (h : KI S nt ns nk ta) (ht : ta < 160) (v : Int32) : KI (cN (cR S 2 (putF (S.2 2) (S.1 11) v)) 11 (S.1 11 + 1)) nt ns nk (ta + 1) := by
  obtain ⟨⟨hL, h1⟩, h2, ⟨h3, h4⟩, h5⟩ := h
  exact ⟨⟨hL.row 2 _ (by rw [putF_len]; exact hL 2), h1⟩, h2, ⟨by show S.1 11 + 1 = nI (ta + 1); rw [h3, nI_1], by omega⟩, h5⟩
set_option maxRecDepth 100000 in
set_option maxHeartbeats 1000000 in
theorem K_feed (h : KC S) (n a b c d e : Int32) : Ctr l 2 X sgX7_feed [.ref 0, .int n, .int a, .int b, .int c, .int d, .int e] (encC S ++ T) (kcQ T) := by
  obtain ⟨nt, ns, nk, ta, q⟩ := id h
  have h11 : S.1 11 = nI ta := q.2.2.1.1
  have h160 := q.2.2.1.2
  refine Ctr.of okX7_feed rfl (Nat.le_of_ble_eq_true rfl) (run_sound okX7_feed cNg 200 ?_)
  refine br (fun _ => lk h) (fun h1 => br (fun h2 => ?_) (fun _ => lk h))
  obtain ⟨m, hm, rfl⟩ : ∃ m : Nat, m ≤ 5 ∧ n = nI m := by
    have h1 := Int32.le_iff_toInt_le.mp (Int32.not_lt.mp h1)
    have h2 := Int32.le_iff_toInt_le.mp h2
    have e1 : (1 : Int32).toInt = 1 := by decide
    have e5 : (5 : Int32).toInt = 5 := by decide
    have e1' : (Int32.ofInt 1).toInt = 1 := by decide
    have e5' : (Int32.ofInt 5).toInt = 5 := by decide
    refine ⟨n.toInt.toNat, by omega, Int32.toInt_inj.mp ?_⟩
    rw [nI_toInt (by omega)]
    omega
  refine kH (c_isByte _) (by decide) (brB' (fun _ => lk h) (fun _ => ?_))
  refine kH (c_isByte _) (by decide) (brB' (fun _ => lk h) (fun _ => ?_))
  refine kH (c_isByte _) (by decide) (brB' (fun _ => lk h) (fun _ => ?_))
  refine kH (c_isByte _) (by decide) (brB' (fun _ => lk h) (fun _ => ?_))
  refine kH (c_isByte _) (by decide) (brB' (fun _ => lk h) (fun _ => ?_))
  refine br (fun y => ?_) (fun _ => lk h)
  have y : S.1 11 + nI m ≤ 160 := y
  have hb : ta + m ≤ 160 := by
    rw [h11, nI_add] at y
    exact (nI_leI (b := 160) (by omega) (by decide)).mp y
  have key : ∀ j, j ≤ m → ∀ S : CS, KI S nt ns nk (ta + j) → WP l (rmD 2 0 0) X sgX7_feed kX7_feed (kcQ T) 36 [some (.ref 0), some (.int (nI m)), some (.int a), some (.int b), some (.int c), some (.int d), some (.int e), some (.int (nI j))] [] (encC S ++ T) 0 0 := by
    refine down (fun S hS => ?_) (fun j hj ih S hS => ?_)
    · exact run_sound okX7_feed cNg 200 (brT (Int32.le_refl _) (lk ⟨nt, ns, nk, _, hS⟩))
    · have t61 : ∀ x, WP l (rmD 2 0 0) X sgX7_feed kX7_feed (kcQ T) 61 [some (.ref 0), some (.int (nI m)), some (.int a), some (.int b), some (.int c), some (.int d), some (.int e), some (.int (nI j))] [.int x, .ref 1] (encC S ++ T) 0 0 := by
        intro x
        have e11 : S.1 11 = nI (ta + j) := hS.2.2.1.1
        refine run_sound okX7_feed cNg 200 (kH (c_tape hS.1.1 x (by rw [e11]; exact nI_lt (b := 160) (by omega) (by decide))) (by decide) ?_)
        have ih := ih _ (hS.tape (by omega) x)
        rw [← nI_1 j] at ih
        exact ih
      exact run_sound okX7_feed cNg 200 (brF (ge_no (n := m) rfl hj (by omega)) (br (fun _ => t61 _) (fun _ => br (fun _ => t61 _) (fun _ => br (fun _ => t61 _) (fun _ => br (fun _ => t61 _) (fun _ => t61 _))))))
  exact key 0 (Nat.zero_le _) S q
def cNpa (i : Nat) : Bool := Nat.beq i 10 || Nat.beq i 42
set_option maxRecDepth 100000 in
theorem K_pairs (h : KC S) (who : Int32) : Ctr l 2 X sgX7_pairs [.ref 0, .int who] (encC S ++ T) (kqQ S T) := by
  obtain ⟨nt, ns, nk, ta, q⟩ := id h
  have hL := h.len
  have h93 : S.1 93 = nI nt := q.1.2.1
  have h6 := q.1.2.2.1.2
  refine Ctr.of okX7_pairs rfl (Nat.le_of_ble_eq_true rfl) (run_sound okX7_pairs cNpa 200 ?_)
  refine kH (c_isBelow who 5) (by decide) (brB' (fun q => lq h) (fun q => ?_))
  have key : ∀ k, k ≤ nt → ∀ (x : Int32) y, WP l (rmD 2 0 0) X sgX7_pairs kX7_pairs (kqQ S T) 10 [some (.ref 0), some (.int who), some (.int x), some (.int (nI k)), y] [] (encC S ++ T) 0 0 := by
    refine down (fun x y => ?_) (fun k hk ih x y => ?_)
    · exact run_sound okX7_pairs cNpa 200 (brT (nle h93) (lq h))
    · have t42 : ∀ (x : Int32) y, WP l (rmD 2 0 0) X sgX7_pairs kX7_pairs (kqQ S T) 42 [some (.ref 0), some (.int who), some (.int x), some (.int (nI k)), y] [] (encC S ++ T) 0 0 := by
        intro x y
        have ih := ih x y
        rw [← nI_1 k] at ih
        exact run_sound okX7_pairs cNpa 200 ih
      exact run_sound okX7_pairs cNpa 200 (brF (nge h93 hk (by omega)) (kH (c_side hL _ _ _) (by decide) (kH (c_side hL _ _ _) (by decide) (br (fun _ => brF (by decide) (t42 _ _)) (fun _ => brT rfl (t42 _ _))))))
  exact key 0 (Nat.zero_le _) _ _
set_option maxRecDepth 100000 in
theorem K_behind (hX : X[0]? = some soInL) (h : KC S) (n what : Int32) : Ctr l 6 X sgX7_behind [.ref 0, .int n, .int what] (encC S ++ T) (kqQ S T) := by
  obtain ⟨m, hm, em⟩ := h.s12
  have hL := h.len
  refine Ctr.of okX7_behind rfl (Nat.le_of_ble_eq_true rfl) (run_sound okX7_behind noCut 200 ?_)
  refine br (fun _ => lq h) (fun h1 => br (fun h2 => ?_) (fun _ => lq h))
  have h2 : n ≤ S.1 134 := h2
  obtain ⟨k, hk, rfl⟩ := p3_or (c := S.1 134) (z := m) h1 h2 (by rw [em, nI_toInt (by omega)]) (by omega)
  refine kH (c_fittingFirst hL (m := k) (by omega)) (by decide) ?_
  exact And.intro (fun _ => lq h) (And.intro (fun _ => kH (c_bitCount _) (by decide) (lq h)) (And.intro (fun _ => kH (c_thingsSure hX _ _) (by decide) (lq h)) (And.intro (fun _ => kH (c_thingsSure hX _ _) (by decide) (lq h)) (And.intro (fun _ => kH (c_worldNumber _ _) (by decide) (lq h)) trivial))))
def cNhb (i : Nat) : Bool := Nat.beq i 11 || Nat.beq i 19 || Nat.beq i 47 || Nat.beq i 53
set_option maxRecDepth 100000 in
theorem K_habit (h : KC S) (s w part : Int32) : Ctr l 5 X sgX7_habit [.ref 0, .int s, .int w, .int part] (encC S ++ T) (kqL S T) := by
  obtain ⟨m, hm, em⟩ := h.s12
  have hL := h.len
  refine Ctr.of okX7_habit rfl (Nat.le_of_ble_eq_true rfl) (run_sound okX7_habit cNhb 200 ?_)
  have t11 : WP l (rmD 5 0 0) X sgX7_habit kX7_habit (kqL S T) 11 [some (.ref 0), some (.int s), some (.int w), some (.int part), none, none, none, none, none] [] (encC S ++ T) 0 0 := run_sound okX7_habit noCut 200 ⟨rfl, lqL h⟩
  refine kH (c_isSpeaker s) (by decide) (brB' (fun _ => t11) (fun _ => kH (c_isWorld w) (by decide) (brB' (fun _ => t11) (fun _ => kH (c_isBelow part 2) (by decide) (brB' (fun _ => t11) (fun _ => ?_))))))
  have key : ∀ k, k ≤ m → ∀ (x y : Int32) u v, WP l (rmD 5 0 0) X sgX7_habit kX7_habit (kqL S T) 19 [some (.ref 0), some (.int s), some (.int w), some (.int part), some (.int x), some (.int y), some (.int (nI k)), u, v] [] (encC S ++ T) 0 0 := by
    refine down (fun x y u v => ?_) (fun k hk ih x y u v => ?_)
    · exact run_sound okX7_habit cNhb 200 (brT (nle em) (kH (c_inLowestTerms _ _ _) (by decide) ⟨rfl, lqL h⟩))
    · have t53 : ∀ (x y : Int32) u v, WP l (rmD 5 0 0) X sgX7_habit kX7_habit (kqL S T) 53 [some (.ref 0), some (.int s), some (.int w), some (.int part), some (.int x), some (.int y), some (.int (nI k)), u, v] [] (encC S ++ T) 0 0 := by
        intro x y u v
        have ih := ih x y u v
        rw [← nI_1 k] at ih
        exact run_sound okX7_habit cNhb 200 ih
      have t47 : ∀ (x y a b : Int32), WP l (rmD 5 0 0) X sgX7_habit kX7_habit (kqL S T) 47 [some (.ref 0), some (.int s), some (.int w), some (.int part), some (.int x), some (.int y), some (.int (nI k)), some (.int a), some (.int b)] [] (encC S ++ T) 0 0 := by
        intro x y a b
        exact run_sound okX7_habit cNhb 200 (br (fun _ => br (fun _ => t53 _ _ _ _) (fun _ => t53 _ _ _ _)) (fun _ => t53 _ _ _ _))
      exact run_sound okX7_habit cNhb 200 (brF (nge em hk (by omega)) (kH (c_sayingPart hL _ _) (by decide) (br (fun _ => kH (c_firstSaid hL _) (by decide) (kH (c_bit _ _) (by decide) (kH (c_secondSaid hL _) (by decide) (kH (c_bit _ _) (by decide) (br (fun _ => t47 _ _ _ _) (fun _ => t47 _ _ _ _)))))) (fun _ => t53 _ _ _ _))))
  exact key 0 (Nat.zero_le _) _ _ _ _
def cNcl (i : Nat) : Bool := Nat.beq i 17 || Nat.beq i 36
set_option maxRecDepth 100000 in
theorem K_claims (h : KC S) (t : Int32) : Ctr l 7 X sgX7_claims [.ref 0, .int t] (encC S ++ T) (kqQ S T) := by
  obtain ⟨nt, ns, nk, ta, q⟩ := id h
  have hL := h.len
  have h93 : S.1 93 = nI nt := q.1.2.1
  have h6 := q.1.2.2.1.2
  refine Ctr.of okX7_claims rfl (Nat.le_of_ble_eq_true rfl) (run_sound okX7_claims cNcl 200 ?_)
  refine kH (c_isText t) (by decide) (brB' (fun _ => lq h) (fun _ => kH (c_fitting q.1) (by decide) (kH (c_onceOf hL t) (by decide) ?_)))
  have key : ∀ so : Int32, ∀ k, k ≤ nt → ∀ (x : Int32), WP l (rmD 7 0 0) X sgX7_claims kX7_claims (kqQ S T) 17 [some (.ref 0), some (.int t), some (.int so), some (.int x), some (.int (nI k))] [] (encC S ++ T) 0 0 := by
    intro so
    refine down (fun x => ?_) (fun k hk ih x => ?_)
    · exact run_sound okX7_claims cNcl 200 (brT (nle h93) (lq h))
    · have t36 : ∀ (x : Int32), WP l (rmD 7 0 0) X sgX7_claims kX7_claims (kqQ S T) 36 [some (.ref 0), some (.int t), some (.int so), some (.int x), some (.int (nI k))] [] (encC S ++ T) 0 0 := by
        intro x
        have ih := ih x
        rw [← nI_1 k] at ih
        exact run_sound okX7_claims cNcl 200 ih
      exact run_sound okX7_claims cNcl 200 (brF (nge h93 hk (by omega)) (kH (c_onceOf hL _) (by decide) (br (fun _ => t36 _) (fun _ => t36 _))))
  exact key _ 0 (Nat.zero_le _) _
end KCALL4
end
section
-- 97b.kcall5
/-! THE CLASS in general: two, hide, settle, many, judge, drawn, mean -/
section KCALL5
variable {l : Launch} {X : List (List Int32)} {S : CS} {T : AH} {hp : AH} {nt ns nk ta : Nat}
def kNtw (i : Nat) : Bool := Nat.beq i 21 || Nat.beq i 28 || Nat.beq i 50
set_option maxRecDepth 100000 in
theorem K_two (h : KC S) (what : Int32) : Ctr l 7 X sgX7_two [.ref 0, .int what] (encC S ++ T) (kqQ S T) := by
  obtain ⟨nt, ns, nk, ta, q⟩ := id h
  have n6 := q.1.2.2.1.2
  have s5 := q.1.2.2.2.2.1
  refine Ctr.of okX7_two rfl (Nat.le_of_ble_eq_true rfl) (run_sound okX7_two kNtw 200 ?_)
  refine kH (c_isBelow what 2) (by decide) (brB' (fun _ => lq h) (fun _ => br (fun _ => lq h) (fun _ => kH (c_fitting q.1) (by decide) ?_)))
  have out : ∀ k, k ≤ ns → ∀ B : BQ, ∀ (f x y : Int32) u v, WP l (rmD 7 0 0) X sgX7_two kX7_two (kqQ S T) 21 [some (.ref 0), some (.int what), some (.int f), some (.int x), some (.int y), some (.int (nI k)), u, v] [] (encC (setB S B) ++ T) 0 0 := by
    refine down (fun B f x y u v => ?_) (fun k hk ih B f x y u v => ?_)
    · exact run_sound okX7_two kNtw 200 (brT (nle q.1.2.2.2.1) (br (fun _ => lqB B) (fun _ => lqB B)))
    · have inn : ∀ j, j ≤ nt → ∀ B : BQ, ∀ (x y : Int32) v, WP l (rmD 7 0 0) X sgX7_two kX7_two (kqQ S T) 28 [some (.ref 0), some (.int what), some (.int f), some (.int x), some (.int y), some (.int (nI k)), some (.int (nI j)), v] [] (encC (setB S B) ++ T) 0 0 := by
        refine down (fun B x y v => ?_) (fun j hj ih2 B x y v => ?_)
        · have ih := ih B f x y (some (.int (nI nt))) v
          rw [← nI_1 k] at ih
          exact run_sound okX7_two kNtw 200 (brT (nle q.1.2.1) ih)
        · have t50 : ∀ B : BQ, ∀ (x y : Int32) v, WP l (rmD 7 0 0) X sgX7_two kX7_two (kqQ S T) 50 [some (.ref 0), some (.int what), some (.int f), some (.int x), some (.int y), some (.int (nI k)), some (.int (nI j)), v] [] (encC (setB S B) ++ T) 0 0 := by
            intro B x y v
            have ih2 := ih2 B x y v
            rw [← nI_1 j] at ih2
            exact run_sound okX7_two kNtw 200 ih2
          refine run_sound okX7_two kNtw 200 (brF (nge q.1.2.1 hj (by omega)) (kH (c_worstBehind (q.1.setB B) _ _ _) (by decide) ?_))
          exact br (fun _ => t50 _ _ _ _) (fun _ => t50 _ _ _ _)
      exact run_sound okX7_two kNtw 200 (brF (nge q.1.2.2.2.1 hk (by omega)) (inn 0 (Nat.zero_le _) B x y v))
  exact out 0 (Nat.zero_le _) (getB S) _ _ _ _ _
def kNhi (i : Nat) : Bool := Nat.beq i 11 || Nat.beq i 23 || Nat.beq i 62
set_option maxRecDepth 100000 in
theorem K_hide (hX : X[0]? = some soInL) (h : KC S) (s w x : Int32) : Ctr l 7 X sgX7_hide [.ref 0, .int s, .int w, .int x] (encC S ++ T) (kqQ S T) := by
  obtain ⟨nt, ns, nk, ta, q⟩ := id h
  have hL := h.len
  have n6 := q.1.2.2.1.2
  have h93 : Int32.ofInt 2 * S.1 93 = nI (2 * nt) := by
    rw [q.1.2.1]
    exact nI_mul 2 nt
  refine Ctr.of okX7_hide rfl (Nat.le_of_ble_eq_true rfl) (run_sound okX7_hide kNhi 200 ?_)
  have t11 : WP l (rmD 7 0 0) X sgX7_hide kX7_hide (kqQ S T) 11 [some (.ref 0), some (.int s), some (.int w), some (.int x), none, none, none, none, none] [] (encC S ++ T) 0 0 := run_sound okX7_hide noCut 200 (lq h)
  refine kH (c_isSpeaker s) (by decide) (brB' (fun _ => t11) (fun _ => kH (c_isWorld w) (by decide) (brB' (fun _ => t11) (fun _ => kH (c_isBelow x 5) (by decide) (brB' (fun _ => t11) (fun _ => kH (c_lawful hL) (by decide) (kH (c_fitting q.1) (by decide) ?_)))))))
  have key : ∀ a b : Int32, ∀ k, k ≤ 2 * nt → ∀ (y : Int32) z, WP l (rmD 7 0 0) X sgX7_hide kX7_hide (kqQ S T) 23 [some (.ref 0), some (.int s), some (.int w), some (.int x), some (.int a), some (.int b), some (.int y), some (.int (nI k)), z] [] (encC S ++ T) 0 0 := by
    intro a b
    refine down (fun y z => ?_) (fun k hk ih y z => ?_)
    · exact run_sound okX7_hide kNhi 200 (brT (nle h93) (lq h))
    · have t62 : ∀ (y : Int32) z, WP l (rmD 7 0 0) X sgX7_hide kX7_hide (kqQ S T) 62 [some (.ref 0), some (.int s), some (.int w), some (.int x), some (.int a), some (.int b), some (.int y), some (.int (nI k)), z] [] (encC S ++ T) 0 0 := by
        intro y z
        have ih := ih y z
        rw [← nI_1 k] at ih
        exact run_sound okX7_hide kNhi 200 ih
      exact run_sound okX7_hide kNhi 200 (brF (nge h93 hk (by omega)) (kH (c_sayableNext hL _ _ _ _) (by decide) (kH (c_bit _ _) (by decide) (br (fun _ => kH (c_isSure hX _ _) (by decide) (br (fun _ => t62 _ _) (fun _ => t62 _ _))) (fun _ => t62 _ _)))))
  exact key _ _ 0 (Nat.zero_le _) _ _
def kNmk (i : Nat) : Bool := Nat.beq i 4 || Nat.beq i 27
set_option maxRecDepth 100000 in
theorem c_markOf (h : CInv S nt ns nk) (a w : Int32) : Ctr l 3 X sgX7_markOf [.ref 0, .int a, .int w] (encC S ++ T) (anQ (encC S ++ T)) := by
  have hL := h.1
  have h93 : S.1 93 = nI nt := h.2.1
  have n6 := h.2.2.1.2
  refine Ctr.of okX7_markOf rfl (Nat.le_of_ble_eq_true rfl) (run_sound okX7_markOf kNmk 200 ?_)
  have key : ∀ k, k ≤ nt → ∀ (y : Int32), WP l (rmD 3 0 0) X sgX7_markOf kX7_markOf (anQ (encC S ++ T)) 4 [some (.ref 0), some (.int a), some (.int w), some (.int y), some (.int (nI k))] [] (encC S ++ T) 0 0 := by
    refine down (fun y => ?_) (fun k hk ih y => ?_)
    · exact run_sound okX7_markOf kNmk 200 (brT (nle h93) (any _))
    · have t27 : ∀ (y : Int32), WP l (rmD 3 0 0) X sgX7_markOf kX7_markOf (anQ (encC S ++ T)) 27 [some (.ref 0), some (.int a), some (.int w), some (.int y), some (.int (nI k))] [] (encC S ++ T) 0 0 := by
        intro y
        have ih := ih y
        rw [← nI_1 k] at ih
        exact run_sound okX7_markOf kNmk 200 ih
      exact run_sound okX7_markOf kNmk 200 (brF (nge h93 hk (by omega)) (kH (c_bit _ _) (by decide) (br (fun _ => kH (c_onceOf hL _) (by decide) (kH (c_bit _ _) (by decide) (br (fun _ => t27 _) (fun _ => t27 _)))) (fun _ => t27 _))))
  exact key 0 (Nat.zero_le _) _
def kNse (i : Nat) : Bool := Nat.beq i 4 || Nat.beq i 31
set_option maxRecDepth 100000 in
theorem c_settles (h : CInv S nt ns nk) (a fit : Int32) : Ctr l 4 X sgX7_settles [.ref 0, .int a, .int fit] (encC S ++ T) (anQ (encC S ++ T)) := by
  refine Ctr.of okX7_settles rfl (Nat.le_of_ble_eq_true rfl) (run_sound okX7_settles kNse 200 ?_)
  have key : ∀ k, k ≤ 32 → ∀ (y : Int64) x6, WP l (rmD 4 0 0) X sgX7_settles kX7_settles (anQ (encC S ++ T)) 4 [some (.ref 0), some (.int a), some (.int fit), some (.long y), none, some (.int (nI k)), x6, none] [] (encC S ++ T) 0 0 := by
    refine down (fun y x6 => ?_) (fun k hk ih y x6 => ?_)
    · exact run_sound okX7_settles kNse 200 (brT (Int32.le_refl _) ⟨rfl, any _⟩)
    · have t31 : ∀ (y : Int64) x6, WP l (rmD 4 0 0) X sgX7_settles kX7_settles (anQ (encC S ++ T)) 31 [some (.ref 0), some (.int a), some (.int fit), some (.long y), none, some (.int (nI k)), x6, none] [] (encC S ++ T) 0 0 := by
        intro y x6
        have ih := ih y x6
        rw [← nI_1 k] at ih
        exact run_sound okX7_settles kNse 200 ih
      refine run_sound okX7_settles kNse 200 (brF (ge_no (n := 32) rfl hk (by decide)) (kH (c_bit _ _) (by decide) (br (fun _ => ⟨3, _, by decide, c_markOf h _ _, ?_⟩) (fun _ => t31 _ _))))
      rintro hp' w ⟨rfl, v, rfl⟩
      exact brC (fun _ => t31 _ _) (fun _ => ⟨rfl, any _⟩)
  exact key 0 (Nat.zero_le _) _ _
def kNst (i : Nat) : Bool := Nat.beq i 13 || Nat.beq i 34
set_option maxRecDepth 100000 in
theorem K_settle (h : KC S) (what : Int32) : Ctr l 7 X sgX7_settle [.ref 0, .int what] (encC S ++ T) (kqQ S T) := by
  obtain ⟨nt, ns, nk, ta, q⟩ := id h
  have n6 := q.1.2.2.1.2
  have hp2 : 2 ^ nt ≤ 64 := Nat.le_trans (Nat.pow_le_pow_right (by decide) n6) (by decide)
  have hsh : (1 : Int32) <<< (S.1 93 &&& 31) = nI (2 ^ nt) := by rw [q.1.2.1]; exact shl_nI nt (by omega)
  refine Ctr.of okX7_settle rfl (Nat.le_of_ble_eq_true rfl) (run_sound okX7_settle kNst 200 ?_)
  refine kH (c_isBelow what 2) (by decide) (brB' (fun _ => lq h) (fun _ => kH (c_fitting q.1) (by decide) ?_))
  have key : ∀ f : Int32, ∀ k, k ≤ 2 ^ nt → ∀ (y : Int32), WP l (rmD 7 0 0) X sgX7_settle kX7_settle (kqQ S T) 13 [some (.ref 0), some (.int what), some (.int f), some (.int y), some (.int (nI k))] [] (encC S ++ T) 0 0 := by
    intro f
    refine down (fun y => ?_) (fun k hk ih y => ?_)
    · exact run_sound okX7_settle kNst 200 (brT (ge_end hsh) (br (fun _ => lq h) (fun _ => br (fun _ => lq h) (fun _ => kH (c_bitCount _) (by decide) (lq h)))))
    · have t34 : ∀ (y : Int32), WP l (rmD 7 0 0) X sgX7_settle kX7_settle (kqQ S T) 34 [some (.ref 0), some (.int what), some (.int f), some (.int y), some (.int (nI k))] [] (encC S ++ T) 0 0 := by
        intro y
        have ih := ih y
        rw [← nI_1 k] at ih
        exact run_sound okX7_settle kNst 200 ih
      refine run_sound okX7_settle kNst 200 (brF (ge_no hsh hk (by omega)) ⟨4, _, by decide, c_settles q.1 _ _, ?_⟩)
      rintro hp' w ⟨rfl, v, rfl⟩
      exact br (fun _ => t34 _) (fun _ => br (fun _ => t34 _) (fun _ => kH (c_fewer _ _) (by decide) (t34 _)))
  exact key _ 0 (Nat.zero_le _) _
set_option maxRecDepth 100000 in
theorem K_many (h : KC S) (what : Int32) : Ctr l 7 X sgX7_many [.ref 0, .int what] (encC S ++ T) (kqQ S T) := by
  obtain ⟨nt, ns, nk, ta, q⟩ := id h
  refine Ctr.of okX7_many rfl (Nat.le_of_ble_eq_true rfl) (run_sound okX7_many (fun i => Nat.beq i 21 || Nat.beq i 46) 200 ?_)
  refine kH (c_isBelow what 8) (by decide) (brB' (fun _ => lq h) (fun _ => kH (c_fitting q.1) (by decide) (br (fun _ => lq h) (fun _ => ?_))))
  have key : ∀ f : Int32, ∀ j, j ≤ 32 → ∀ (x y z : Int32) x7, WP l (rmD 7 0 0) X sgX7_many kX7_many (kqQ S T) 21 [some (.ref 0), some (.int what), some (.int f), some (.int x), some (.int y), some (.int z), some (.int (nI j)), x7] [] (encC S ++ T) 0 0 := by
    intro f
    refine down (fun x y z x7 => ?_) (fun j hj ih x y z x7 => ?_)
    · exact run_sound okX7_many (fun i => Nat.beq i 21) 200 (brT (Int32.le_refl _) (br (fun p0 => lq h) (fun p0 => br (fun p1 => lq h) (fun p1 => lq h))))
    · have t46 : ∀ (x y z : Int32) x7, WP l (rmD 7 0 0) X sgX7_many kX7_many (kqQ S T) 46 [some (.ref 0), some (.int what), some (.int f), some (.int x), some (.int y), some (.int z), some (.int (nI j)), x7] [] (encC S ++ T) 0 0 := by
        intro x y z x7
        have ih := ih x y z x7
        rw [← nI_1 j] at ih
        exact run_sound okX7_many (fun i => Nat.beq i 21) 200 ih
      exact run_sound okX7_many (fun i => Nat.beq i 21 || Nat.beq i 46) 200 (brF (ge_no (n := 32) rfl hj (by decide)) (kH (c_bit _ _) (by decide) (br (fun h => kH (c_bitCount _) (by decide) (And.intro (by decide) (And.intro (by decide) (br (fun h2 => t46 _ _ _ _) (fun h2 => t46 _ _ _ _))))) (fun h => t46 _ _ _ _))))
  exact key _ 0 (Nat.zero_le _) _ _ _ _
def kNrf (i : Nat) : Bool := Nat.beq i 40
set_option maxRecDepth 100000 in
theorem c_rowFits (hL : CLen S) (s n w : Int32) : Ctr l 3 X sgX7_rowFits [.ref 0, .int s, .int n, .int w] (encC S ++ T) (anQ (encC S ++ T)) := by
  refine Ctr.of okX7_rowFits rfl (Nat.le_of_ble_eq_true rfl) (run_sound okX7_rowFits noCut 300 ?_)
  refine kH (c_read hL _ _) (by decide) (kH (c_read hL _ _) (by decide) (kH (c_read hL _ _) (by decide) ?_))
  exact kH (c_isSpeaker _) (by decide) (brB' (fun _ => ⟨rfl, any _⟩) (fun _ => kH (c_isText _) (by decide) (brB' (fun _ => ⟨rfl, any _⟩) (fun _ => kH (c_isBelow _ _) (by decide) (brB' (fun _ => ⟨rfl, any _⟩) (fun _ => kH (c_sayableNext hL _ _ _ _) (by decide) (kH (c_bit _ _) (by decide) (br (fun _ => ⟨rfl, any _⟩) (fun _ => ⟨rfl, any _⟩)))))))))
set_option maxRecDepth 100000 in
theorem K_stranger (h : KC S) (seed fit : Int32) : Ctr l 5 X sgX7_strangerAsks [.ref 0, .int seed, .int fit] (encC S ++ T) (fun h w => (∃ B, h = encC (setB S B) ++ T) ∧ ∃ v : Int32, w = some (.int v)) := by
  obtain ⟨nt, ns, nk, ta, q⟩ := id h
  by_cases e : bcF fit = 0
  · refine Ctr.of okX7_strangerAsks rfl (Nat.le_of_ble_eq_true rfl) (run_sound okX7_strangerAsks noCut 200 ?_)
    exact kH (c_bitCount _) (by decide) (brT e ⟨⟨getB S, rfl⟩, _, rfl⟩)
  · exact (c_strangerAsks q.1 seed fit e).weak (fun hp w hw => ⟨⟨_, hw.1⟩, _, hw.2⟩)
set_option maxRecDepth 100000 in
theorem K_drawn (h : KC S) (seed : Int32) : Ctr l 7 X sgX7_drawn [.ref 0, .int seed] (encC S ++ T) (kqQ S T) := by
  obtain ⟨nt, ns, nk, ta, q⟩ := id h
  refine Ctr.of okX7_drawn rfl (Nat.le_of_ble_eq_true rfl) (run_sound okX7_drawn noCut 200 ?_)
  refine br (fun _ => lq h) (fun _ => br (fun _ => kH (c_fitting q.1) (by decide) (br (fun _ => lq h) (fun _ => ⟨5, _, by decide, K_stranger h _ _, ?_⟩))) (fun _ => lq h))
  rintro hp' w ⟨⟨B, rfl⟩, v, rfl⟩
  exact lqB B
def kNme (i : Nat) : Bool := Nat.beq i 17 || Nat.beq i 30
set_option maxRecDepth 100000 in
theorem K_mean (h : KC S) (seed seeds part : Int32) : Ctr l 7 X sgX7_mean [.ref 0, .int seed, .int seeds, .int part] (encC S ++ T) (kqL S T) := by
  obtain ⟨nt, ns, nk, ta, q⟩ := id h
  refine Ctr.of okX7_mean rfl (Nat.le_of_ble_eq_true rfl) (run_sound okX7_mean kNme 200 ?_)
  have t17 : WP l (rmD 7 0 0) X sgX7_mean kX7_mean (kqL S T) 17 [some (.ref 0), some (.int seed), some (.int seeds), some (.int part), none, none, none] [] (encC S ++ T) 0 0 := run_sound okX7_mean noCut 200 ⟨rfl, lqL h⟩
  refine br (fun _ => ⟨rfl, lqL h⟩) (fun _ => br (fun _ => ?_) (fun _ => ⟨rfl, lqL h⟩))
  refine br (fun _ => t17) (fun h3 => br (fun _ => t17) (fun h4 => kH (c_isBelow part 2) (by decide) (brB' (fun _ => t17) (fun _ => kH (c_fitting q.1) (by decide) (br (fun _ => ⟨rfl, lqL h⟩) (fun _ => ?_))))))
  obtain ⟨n, hn, rfl⟩ := in110 ⟨Int32.not_lt.mp h3, Int32.not_lt.mp h4⟩
  have key : ∀ f : Int32, ∀ j, j ≤ n → ∀ B : BQ, ∀ y : Int32, WP l (rmD 7 0 0) X sgX7_mean kX7_mean (kqL S T) 30 [some (.ref 0), some (.int seed), some (.int (nI n)), some (.int part), some (.int f), some (.int y), some (.int (nI j))] [] (encC (setB S B) ++ T) 0 0 := by
    intro f
    refine down (fun B y => ?_) (fun j hj ih B y => ?_)
    · exact run_sound okX7_mean kNme 200 (brT (Int32.le_refl _) (kH (c_inLowestTerms _ _ _) (by decide) ⟨rfl, lqBL B⟩))
    · refine run_sound okX7_mean kNme 200 (brF (ge_no (n := n) rfl hj (by omega)) ⟨5, _, by decide, K_stranger (h.setB B) _ _, ?_⟩)
      rintro hp' w ⟨⟨B', rfl⟩, v, rfl⟩
      rw [← nI_1 j] at ih
      exact ih B' _
  exact key _ 0 (Nat.zero_le _) (getB S) _
set_option maxRecDepth 100000 in
theorem K_judge (h : KC S) (s w : Int32) : Ctr l 4 X sgX7_judge [.ref 0, .int s, .int w] (encC S ++ T) (kqQ S T) := by
  have hL := h.len
  refine Ctr.of okX7_judge rfl (Nat.le_of_ble_eq_true rfl) (run_sound okX7_judge (fun i => Nat.beq i 32) 200 ?_)
  refine kH (c_isBelow s 4) (by decide) (brB' (fun _ => lq h) (fun _ => kH (c_isMissing hL s) (by decide) (brB' (fun _ => kH (c_at (xs := S.2 23) rfl (hL.lt 23)) (by decide) ?_) (fun _ => lq h))))
  refine And.intro (by decide) (br (fun _ => kH (c_isWorld w) (by decide) (brB' (fun _ => lq h) (fun _ => ?_))) (fun _ => lq h))
  have key : ∀ z : Int32, WP l (rmD 4 0 0) X sgX7_judge kX7_judge (kqQ S T) 32 [some (.ref 0), some (.int s), some (.int w), some (.int z), some (.int (nI 0))] [] (encC S ++ T) 0 0 := by
    intro z
    by_cases e : z / Int32.ofInt 3 ≤ 0
    · exact run_sound okX7_judge (fun i => Nat.beq i 32) 200 (And.intro (by decide) (brT e (lq h)))
    · obtain ⟨m, hm, em⟩ := i32_nat e
      have lp : ∀ k, k ≤ m → WP l (rmD 4 0 0) X sgX7_judge kX7_judge (kqQ S T) 32 [some (.ref 0), some (.int s), some (.int w), some (.int z), some (.int (nI k))] [] (encC S ++ T) 0 0 := by
        refine down ?_ (fun k hk ih => ?_)
        · exact run_sound okX7_judge (fun i => Nat.beq i 32) 200 (And.intro (by decide) (brT (nle em) (lq h)))
        · refine run_sound okX7_judge (fun i => Nat.beq i 32) 200 (And.intro (by decide) (brF (nge em hk hm) ⟨3, _, by decide, c_rowFits hL _ _ _, ?_⟩))
          rintro hp' w' ⟨rfl, v, rfl⟩
          rw [← nI_1 k] at ih
          exact br (fun _ => lq h) (fun _ => ih)
      exact lp 0 (Nat.zero_le _)
  exact key _
end KCALL5
end
section
-- 97c.kprec
/-! THE CLASS in general: what each call that changes it makes of it, precisely -/
section KPREC
variable {l : Launch} {X : List (List Int32)} {S : CS} {T : AH} {hp : AH} {nt ns nk ta : Nat}
/-- a state and an answer -/
abbrev kpQ (T : AH) (r : CS × Int32) : AH → Option Value → Prop := fun h w => h = encC r.1 ++ T ∧ w = some (.int r.2)
theorem kp {r : CS × Int32} {S' : CS} {v : Int32} (e : r = (S', v)) : kpQ T r (encC S' ++ T) (some (.int v)) := by
  subst e
  exact ⟨rfl, rfl⟩
abbrev kxP (n : Int32) (t : Int32) : Prop := (0 : Int32) ≤ t ∧ t < n
abbrev ksoP (k m : Int32) : Prop := ((0 : Int32) ≤ k ∧ k < 6) ∧ ((0 : Int32) ≤ m ∧ m ≤ 9)
def kspG (S : CS) (k m : Int32) : CS × Int32 := if ksoP k m then (if S.1 133 < 5 then (cN (cR (cR S 14 (putF (S.2 14) (S.1 133) k)) 15 (putF (S.2 15) (S.1 133) m)) 133 (S.1 133 + 1), S.1 133) else (S, -4)) else (S, -2)
set_option maxRecDepth 100000 in
theorem P_speaker (hL : CLen S) (k m : Int32) : Ctr l 2 X sgX7_speaker [.ref 0, .int k, .int m] (encC S ++ T) (kpQ T (kspG S k m)) := by
  refine Ctr.of okX7_speaker rfl (Nat.le_of_ble_eq_true rfl) (run_sound okX7_speaker noCut 200 ?_)
  refine kH (c_isKind k) (by decide) (brB' (fun q => kp (if_neg (fun z => q z.1))) (fun q => kH (c_isMore m) (by decide) (brB' (fun q2 => kp (if_neg (fun z => q2 z.2))) (fun q2 => br (fun y => kH (c_become13 hL _ k m) (by decide) ?_) (fun y => kp ((if_pos ⟨q, q2⟩).trans (if_neg y)))))))
  have e : kspG S k m = (cN (cR (cR S 14 (putF (S.2 14) (S.1 133) k)) 15 (putF (S.2 15) (S.1 133) m)) 133 (S.1 133 + 1), S.1 133) := (if_pos ⟨q, q2⟩).trans (if_pos y)
  rw [e]
  exact And.intro rfl (And.intro trivial ⟨rfl, rfl⟩)
def ktrG (S : CS) (s k m : Int32) : CS × Int32 := if kxP (S.1 133) s then (if ksoP k m then (cR (cR S 14 (putF (S.2 14) s k)) 15 (putF (S.2 15) s m), atF (S.2 14) s) else (S, -7)) else (S, -5)
set_option maxRecDepth 100000 in
theorem P_turn (hL : CLen S) (s k m : Int32) : Ctr l 2 X sgX7_turn [.ref 0, .int s, .int k, .int m] (encC S ++ T) (kpQ T (ktrG S s k m)) := by
  refine Ctr.of okX7_turn rfl (Nat.le_of_ble_eq_true rfl) (run_sound okX7_turn noCut 200 ?_)
  exact kH (c_isSpeaker s) (by decide) (brB' (fun q => kp (if_neg q)) (fun q => kH (c_isKind k) (by decide) (brB' (fun q2 => kp ((if_pos q).trans (if_neg (fun z => q2 z.1)))) (fun q2 => kH (c_isMore m) (by decide) (brB' (fun q3 => kp ((if_pos q).trans (if_neg (fun z => q3 z.2)))) (fun q3 => kH (c_at (xs := S.2 14) rfl (hL.lt 14)) (by decide) (kH (c_become13 hL s k m) (by decide) (kp ((if_pos q).trans (if_pos ⟨q2, q3⟩))))))))))
def ktdG (S : CS) (s what : Int32) : Int32 := if kxP (S.1 133) s then (if what = 0 then atF (S.2 14) s else if what = 1 then atF (S.2 15) s else if what = 2 then bI (atF (S.2 14) s = 5) else -7) else -5
set_option maxRecDepth 100000 in
theorem P_told (hL : CLen S) (s what : Int32) : Ans l 2 X sgX7_told [.ref 0, .int s, .int what] (encC S ++ T) (ktdG S s what) := by
  refine Ctr.of okX7_told rfl (Nat.le_of_ble_eq_true rfl) (run_sound okX7_told noCut 200 ?_)
  refine kH (c_isSpeaker s) (by decide) (brB' (fun q => ⟨rfl, some_int (if_neg q).symm⟩) (fun q => ?_))
  have e : ktdG S s what = if what = 0 then atF (S.2 14) s else if what = 1 then atF (S.2 15) s else if what = 2 then bI (atF (S.2 14) s = 5) else -7 := if_pos q
  rw [e]
  refine And.intro (fun h => ⟨rfl, some_int ?_⟩) (And.intro (fun h => ?_) (And.intro (fun h => ?_) (And.intro (fun h => ?_) trivial)))
  · have n0 : ¬ what = 0 := fun z => by subst z; revert h; decide
    have n1 : ¬ what = 1 := fun z => by subst z; revert h; decide
    have n2 : ¬ what = 2 := fun z => by subst z; revert h; decide
    rw [if_neg n0, if_neg n1, if_neg n2]
    rfl
  · subst h; exact kH (c_at (xs := S.2 14) rfl (hL.lt 14)) (by decide) ⟨rfl, rfl⟩
  · subst h; exact kH (c_at (xs := S.2 15) rfl (hL.lt 15)) (by decide) ⟨rfl, rfl⟩
  · subst h; exact kH (c_at (xs := S.2 14) rfl (hL.lt 14)) (by decide) (br (fun y => ⟨rfl, some_int (bIe1 y)⟩) (fun y => ⟨rfl, some_int (bIe0 y)⟩))
def kfoG (S : CS) (t : Int32) : CS × Int32 := if kxP (S.1 93) t then (cN S 135 t, S.1 135) else (S, -2)
set_option maxRecDepth 100000 in
theorem P_force (t : Int32) : Ctr l 2 X sgX7_force [.ref 0, .int t] (encC S ++ T) (kpQ T (kfoG S t)) := by
  refine Ctr.of okX7_force rfl (Nat.le_of_ble_eq_true rfl) (run_sound okX7_force noCut 100 ?_)
  refine kH (c_isText t) (by decide) (brB' (fun q => kp (if_neg q)) (fun q => ?_))
  have e : kfoG S t = (cN S 135 t, S.1 135) := if_pos q
  rw [e]
  exact And.intro trivial ⟨rfl, rfl⟩
def ksyG (S : CS) (s t u : Int32) : CS × Int32 := if kxP (S.1 133) s ∧ kxP (S.1 93) t then (if kxP 2 u then (if S.1 134 < 12 then (S3 S s t u, S.1 134 + 1 - 1) else (S, -4)) else (S, -7)) else (S, -5)
set_option maxRecDepth 100000 in
theorem P_say (hL : CLen S) (s t u : Int32) : Ctr l 2 X sgX7_say [.ref 0, .int s, .int t, .int u] (encC S ++ T) (kpQ T (ksyG S s t u)) := by
  refine Ctr.of okX7_say rfl (Nat.le_of_ble_eq_true rfl) (run_sound okX7_say noCut 200 ?_)
  exact kH (c_isSpeaker s) (by decide) (brB' (fun q => kp (if_neg (fun z => q z.1))) (fun q => kH (c_isText t) (by decide) (brB' (fun q2 => kp (if_neg (fun z => q2 z.2))) (fun q2 => kH (c_isBelow u 2) (by decide) (brB' (fun q3 => kp ((if_pos ⟨q, q2⟩).trans (if_neg q3))) (fun q3 => br (fun y => kH (c_append hL s t u y) (by decide) (kp ((if_pos ⟨q, q2⟩).trans ((if_pos q3).trans (if_pos y))))) (fun y => kp ((if_pos ⟨q, q2⟩).trans ((if_pos q3).trans (if_neg y))))))))))
def kunG (S : CS) : CS × Int32 := if 0 < S.1 134 then (cN S 134 (S.1 134 - 1), S.1 134 - 1) else (S, -3)
set_option maxRecDepth 100000 in
theorem P_unsay : Ctr l 2 X sgX7_unsay [.ref 0] (encC S ++ T) (kpQ T (kunG S)) := by
  refine Ctr.of okX7_unsay rfl (Nat.le_of_ble_eq_true rfl) (run_sound okX7_unsay noCut 200 ?_)
  refine br (fun y => ?_) (fun y => kp (if_neg y))
  have e : kunG S = (cN S 134 (S.1 134 - 1), S.1 134 - 1) := if_pos y
  rw [e]
  exact And.intro rfl (And.intro trivial ⟨rfl, rfl⟩)
def ksdG (S : CS) (k what : Int32) : Int32 := if kxP (S.1 134) k then (if kxP 3 what then partF S k what else -7) else -5
set_option maxRecDepth 100000 in
theorem P_said (hL : CLen S) (k what : Int32) : Ans l 2 X sgX7_said [.ref 0, .int k, .int what] (encC S ++ T) (ksdG S k what) := by
  refine Ctr.of okX7_said rfl (Nat.le_of_ble_eq_true rfl) (run_sound okX7_said noCut 200 ?_)
  exact kH (c_isBelow k (S.1 134)) (by decide) (brB' (fun q => ⟨rfl, some_int (if_neg q).symm⟩) (fun q => kH (c_isBelow what 3) (by decide) (brB' (fun q2 => ⟨rfl, some_int ((if_pos q).trans (if_neg q2)).symm⟩) (fun q2 => kH (c_sayingPart hL k what) (by decide) ⟨rfl, some_int ((if_pos q).trans (if_pos q2)).symm⟩))))
def kceG (S : CS) (s i v : Int32) : CS × Int32 := if kxP 4 s then (if atF (S.2 22) s = -1 then (S, -11) else if kxP (atF (S.2 23) s) i then (wrS S s i v, 1) else (S, -12)) else (S, -2)
set_option maxRecDepth 100000 in
theorem P_cell (hL : CLen S) (s i v : Int32) : Ctr l 2 X sgX7_cell [.ref 0, .int s, .int i, .int v] (encC S ++ T) (kpQ T (kceG S s i v)) := by
  refine Ctr.of okX7_cell rfl (Nat.le_of_ble_eq_true rfl) (run_sound okX7_cell noCut 200 ?_)
  exact kH (c_isBelow s 4) (by decide) (brB' (fun q => kp (if_neg q)) (fun q => kH (c_isMissing hL s) (by decide) (brB' (fun q2 => kH (c_holds hL s i) (by decide) (brB' (fun q3 => kp ((if_pos q).trans ((if_neg q2).trans (if_neg q3)))) (fun q3 => kH (c_write hL s i v) (by decide) (kp ((if_pos q).trans ((if_neg q2).trans (if_pos q3))))))) (fun q2 => kp ((if_pos q).trans (if_pos q2))))))
end KPREC
end
section
-- 97d.kprec2
/-! THE CLASS in general: images, precisely -/
section KPREC2
variable {l : Launch} {X : List (List Int32)} {S : CS} {T : AH} {hp : AH}
theorem nI_ge0 {j : Nat} (hj : j < 2 ^ 31) : (0 : Int32) ≤ nI j := by
  rw [Int32.le_iff_toInt_le, nI_toInt hj]
  have e0 : (0 : Int32).toInt = 0 := by decide
  omega
theorem putF_n {zs : List Int32} {j : Nat} {v : Int32} (hj : j < 2 ^ 31) : putF zs (nI j) v = zs.set j v := by
  unfold putF
  rw [if_pos (nI_ge0 hj), nI_clamp hj]
theorem atF_n {zs : List Int32} {j : Nat} (hj : j < 2 ^ 31) : atF zs (nI j) = zs.getD j 0 := by
  unfold atF
  rw [if_pos (nI_ge0 hj), nI_clamp hj]
theorem cp_put {xs ys : List Int32} {j : Nat} (hj : j < xs.length) (hl : xs.length = ys.length) (h31 : j < 2 ^ 31) : putF (cpH xs ys j) (nI j) (atF xs (nI j)) = cpH xs ys (j + 1) := by
  rw [putF_n h31, atF_n h31]
  exact copy_step hj hl
theorem cp_0 (xs ys : List Int32) : cpH xs ys 0 = ys := rfl
theorem cp_n {xs ys : List Int32} {n : Nat} (hn : xs.length = n) (hl : xs.length = ys.length) : cpH xs ys n = xs := by
  rw [← hn]
  exact cpH_all hl
/-- the rows of both talks -/
def TkL (S : CS) : Prop := (S.2 14).length = 5 ∧ (S.2 15).length = 5 ∧ (S.2 16).length = 36 ∧ (S.2 18).length = 5 ∧ (S.2 19).length = 5 ∧ (S.2 20).length = 36
set_option maxRecDepth 100000 in
set_option maxHeartbeats 1000000 in
theorem P_keep (hL : CLen S) (hT : TkL S) : Ctr l 2 X sgX4_becomeLike [.ref 17, .ref 13] (encC S ++ T) (fun h w => h = encC (kepS S (S.2 14) (S.2 15) (S.2 16)) ++ T ∧ w = none) := by
  obtain ⟨l14, l15, l16, l18, l19, l20⟩ := hT
  refine Ctr.of okX4_becomeLike rfl (Nat.le_of_ble_eq_true rfl) (run_sound okX4_becomeLike cNli 200 ?_)
  have k2 : ∀ j, j ≤ 36 → WP l (rmD 2 0 0) X sgX4_becomeLike kX4_becomeLike (fun h w => h = encC (kepS S (S.2 14) (S.2 15) (S.2 16)) ++ T ∧ w = none) 23 [some (.ref 17), some (.ref 13), some (.int (nI j))] [] (encC (cR (cR (cR S 18 (S.2 14)) 19 (S.2 15)) 20 (cpH (S.2 16) (S.2 20) j)) ++ T) 0 0 := by
    refine down ?_ (fun j hj ih => ?_)
    · rw [cp_n l16 (l16.trans l20.symm)]
      exact run_sound okX4_becomeLike cNli 200 (brT (Int32.le_refl _) (And.intro trivial (And.intro trivial (And.intro trivial ⟨rfl, rfl, rfl⟩))))
    · have hlen : (cpH (S.2 16) (S.2 20) j).length < 2 ^ 31 := by rw [cpH_len (by omega) (l16.trans l20.symm), l16]; decide
      refine run_sound okX4_becomeLike cNli 200 (brF (ge_no (n := 36) rfl hj (by decide)) (kH (c_at (xs := S.2 16) rfl (hL.lt 16)) (by decide) (kH (c_put (xs := cpH (S.2 16) (S.2 20) j) rfl rfl hlen) (by decide) ?_)))
      rw [← cp_put (by omega) (l16.trans l20.symm) (by omega), ← nI_1 j] at ih
      exact ih
  have k1 : ∀ j, j ≤ 5 → WP l (rmD 2 0 0) X sgX4_becomeLike kX4_becomeLike (fun h w => h = encC (kepS S (S.2 14) (S.2 15) (S.2 16)) ++ T ∧ w = none) 5 [some (.ref 17), some (.ref 13), some (.int (nI j))] [] (encC (cR (cR S 18 (cpH (S.2 14) (S.2 18) j)) 19 (cpH (S.2 15) (S.2 19) j)) ++ T) 0 0 := by
    refine down ?_ (fun j hj ih => ?_)
    · rw [cp_n l14 (l14.trans l18.symm), cp_n l15 (l15.trans l19.symm)]
      exact run_sound okX4_becomeLike cNli 200 (brT (Int32.le_refl _) (k2 0 (Nat.zero_le _)))
    · have ha : (cpH (S.2 14) (S.2 18) j).length ≤ 1000 := by rw [cpH_len (by omega) (l14.trans l18.symm), l14]; decide
      have hb : (cpH (S.2 15) (S.2 19) j).length ≤ 1000 := by rw [cpH_len (by omega) (l15.trans l19.symm), l15]; decide
      refine run_sound okX4_becomeLike cNli 200 (brF (ge_no (n := 5) rfl hj (by decide)) (kH (c_at (xs := S.2 14) rfl (hL.lt 14)) (by decide) (kH (c_at (xs := S.2 15) rfl (hL.lt 15)) (by decide) (kH (c_become17 (len2 hL ha hb) _ _ _) (by decide) ?_))))
      rw [← cp_put (by omega) (l14.trans l18.symm) (by omega), ← cp_put (by omega) (l15.trans l19.symm) (by omega), ← nI_1 j] at ih
      exact ih
  exact k1 0 (Nat.zero_le _)
set_option maxRecDepth 100000 in
set_option maxHeartbeats 1000000 in
theorem P_likeBack (hL : CLen S) (hT : TkL S) : Ctr l 2 X sgX4_becomeLike [.ref 13, .ref 17] (encC S ++ T) (fun h w => h = encC (bakS S (S.2 18) (S.2 19) (S.2 20)) ++ T ∧ w = none) := by
  obtain ⟨l14, l15, l16, l18, l19, l20⟩ := hT
  refine Ctr.of okX4_becomeLike rfl (Nat.le_of_ble_eq_true rfl) (run_sound okX4_becomeLike cNli 200 ?_)
  have k2 : ∀ j, j ≤ 36 → WP l (rmD 2 0 0) X sgX4_becomeLike kX4_becomeLike (fun h w => h = encC (bakS S (S.2 18) (S.2 19) (S.2 20)) ++ T ∧ w = none) 23 [some (.ref 13), some (.ref 17), some (.int (nI j))] [] (encC (cR (cR (cR S 14 (S.2 18)) 15 (S.2 19)) 16 (cpH (S.2 20) (S.2 16) j)) ++ T) 0 0 := by
    refine down ?_ (fun j hj ih => ?_)
    · rw [cp_n l20 (l20.trans l16.symm)]
      exact run_sound okX4_becomeLike cNli 200 (brT (Int32.le_refl _) (And.intro trivial (And.intro trivial (And.intro trivial ⟨rfl, rfl, rfl⟩))))
    · have hlen : (cpH (S.2 20) (S.2 16) j).length < 2 ^ 31 := by rw [cpH_len (by omega) (l20.trans l16.symm), l20]; decide
      refine run_sound okX4_becomeLike cNli 200 (brF (ge_no (n := 36) rfl hj (by decide)) (kH (c_at (xs := S.2 20) rfl (hL.lt 20)) (by decide) (kH (c_put (xs := cpH (S.2 20) (S.2 16) j) rfl rfl hlen) (by decide) ?_)))
      rw [← cp_put (by omega) (l20.trans l16.symm) (by omega), ← nI_1 j] at ih
      exact ih
  have k1 : ∀ j, j ≤ 5 → WP l (rmD 2 0 0) X sgX4_becomeLike kX4_becomeLike (fun h w => h = encC (bakS S (S.2 18) (S.2 19) (S.2 20)) ++ T ∧ w = none) 5 [some (.ref 13), some (.ref 17), some (.int (nI j))] [] (encC (cR (cR S 14 (cpH (S.2 18) (S.2 14) j)) 15 (cpH (S.2 19) (S.2 15) j)) ++ T) 0 0 := by
    refine down ?_ (fun j hj ih => ?_)
    · rw [cp_n l18 (l18.trans l14.symm), cp_n l19 (l19.trans l15.symm)]
      exact run_sound okX4_becomeLike cNli 200 (brT (Int32.le_refl _) (k2 0 (Nat.zero_le _)))
    · have ha : (cpH (S.2 18) (S.2 14) j).length ≤ 1000 := by rw [cpH_len (by omega) (l18.trans l14.symm), l18]; decide
      have hb : (cpH (S.2 19) (S.2 15) j).length ≤ 1000 := by rw [cpH_len (by omega) (l19.trans l15.symm), l19]; decide
      refine run_sound okX4_becomeLike cNli 200 (brF (ge_no (n := 5) rfl hj (by decide)) (kH (c_at (xs := S.2 18) rfl (hL.lt 18)) (by decide) (kH (c_at (xs := S.2 19) rfl (hL.lt 19)) (by decide) (kH (c_become13 (len2 hL ha hb) _ _ _) (by decide) ?_))))
      rw [← cp_put (by omega) (l18.trans l14.symm) (by omega), ← cp_put (by omega) (l19.trans l15.symm) (by omega), ← nI_1 j] at ih
      exact ih
  exact k1 0 (Nat.zero_le _)
set_option maxRecDepth 100000 in
theorem P_image (hL : CLen S) (hT : TkL S) : Ctr l 3 X sgX7_image [.ref 0] (encC S ++ T) (kpQ T (cN (kepS S (S.2 14) (S.2 15) (S.2 16)) 8 1, S.1 134)) := by
  refine Ctr.of okX7_image rfl (Nat.le_of_ble_eq_true rfl) (run_sound okX7_image noCut 200 ⟨2, _, by decide, P_keep hL hT, ?_⟩)
  rintro hp' w ⟨rfl, rfl⟩
  exact And.intro (Or.inr rfl) ⟨rfl, rfl⟩
def kbkG (S : CS) : CS × Int32 := if S.1 8 = 0 then (S, -3) else (bakS S (S.2 18) (S.2 19) (S.2 20), S.1 174)
set_option maxRecDepth 100000 in
theorem P_back (hL : CLen S) (hT : TkL S) : Ctr l 3 X sgX7_back [.ref 0] (encC S ++ T) (kpQ T (kbkG S)) := by
  refine Ctr.of okX7_back rfl (Nat.le_of_ble_eq_true rfl) (run_sound okX7_back noCut 200 (br (fun y => kp (if_pos y)) (fun y => ⟨2, _, by decide, P_likeBack hL hT, ?_⟩)))
  rintro hp' w ⟨rfl, rfl⟩
  exact kp (if_neg y)
end KPREC2
end
section
-- 97e.rel
/-! BOTH SIDES ALIKE: the talk and its image -/
section REL
variable {S : CS} {M : MS} {nt ns nk ta : Nat}
def RTk (S : CS) (M : MS) : Prop := S.1 133 = M.1 0 ∧ S.1 134 = M.1 3 ∧ S.1 135 = M.1 10 ∧ S.2 14 = M.2.1 1 ∧ S.2 15 = M.2.1 2 ∧ S.2 16 = M.2.1 4
def RIm (S : CS) (M : MS) : Prop := S.1 8 = M.1 11 ∧ S.1 173 = M.1 12 ∧ S.1 174 = M.1 13 ∧ S.1 175 = M.1 14 ∧ M.2.1 15 = S.2 18 ++ S.2 19 ∧ S.2 20 = M.2.1 16
theorem xp_iff {n : Nat} (hn : n < 2 ^ 31) {s : Int32} : kxP (nI n) s ↔ tP n s := by
  refine and_congr_right (fun h0 => ?_)
  cases n with
  | zero =>
    constructor
    · intro h
      exact absurd h (Int32.not_lt.mpr h0)
    · intro h
      have g0 := Int32.le_iff_toInt_le.mp h0
      have g1 := Int32.le_iff_toInt_le.mp h
      have e0 : (0 : Int32).toInt = 0 := by decide
      have e1 : (nI 0 - 1).toInt = -1 := by decide
      omega
  | succ n =>
    rw [nI_pred, Int32.lt_iff_toInt_lt, Int32.le_iff_toInt_le, nI_toInt hn, nI_toInt (by omega)]
    omega
theorem so_iff {k m : Int32} : ksoP k m ↔ soP k m := and_congr_left (fun _ => and_congr_right (fun _ => ltle (by decide)))
theorem atF_tP {n : Nat} {s : Int32} (h : tP n s) (xs : List Int32) : atF xs s = xs.getD s.toNatClampNeg 0 := if_pos h.1
theorem told_rel (h : MInv M nt ns nk) (r : RTk S M) (s what : Int32) : ktdG S s what = tdG M ns s what := by
  obtain ⟨r0, r3, r10, r1, r2, r4⟩ := r
  have h0 := h.2.2.2.1
  unfold ktdG tdG
  rw [r0, h0.1, r1, r2]
  by_cases q : tP ns s
  · rw [if_pos ((xp_iff (by omega)).mpr q), if_pos q, atF_tP q, atF_tP q]
  · rw [if_neg (fun z => q ((xp_iff (by omega)).mp z)), if_neg q]
theorem speaker_rel (h : MInv M nt ns nk) (r : RTk S M) (ri : RIm S M) (k m : Int32) : RTk (kspG S k m).1 (spG M ns k m).1 ∧ RIm (kspG S k m).1 (spG M ns k m).1 ∧ (kspG S k m).2 = (spG M ns k m).2 := by
  have rr := r
  obtain ⟨r0, r3, r10, r1, r2, r4⟩ := r
  obtain ⟨h0, h5⟩ := h.2.2.2.1
  have e0 : S.1 133 = nI ns := r0.trans h0
  unfold kspG spG
  by_cases q : soP k m
  · rw [if_pos (so_iff.mpr q), if_pos q]
    by_cases e : ns = 5
    · rw [if_neg (by rw [e0, e]; decide), if_pos e]
      exact ⟨rr, ri, rfl⟩
    · rw [if_pos (by rw [e0]; exact nI_lt (b := 5) (by omega) (by decide)), if_neg e]
      refine ⟨⟨?_, r3, r10, ?_, ?_, r4⟩, ri, e0⟩
      · show S.1 133 + 1 = nI (ns + 1)
        rw [e0, nI_1]
      · show putF (S.2 14) (S.1 133) k = (M.2.1 1).set ns k
        rw [e0, putF_n (by omega), r1]
      · show putF (S.2 15) (S.1 133) m = (M.2.1 2).set ns m
        rw [e0, putF_n (by omega), r2]
  · rw [if_neg (fun z => q (so_iff.mp z)), if_neg q]
    exact ⟨rr, ri, rfl⟩
theorem turn_rel (h : MInv M nt ns nk) (r : RTk S M) (ri : RIm S M) (s k m : Int32) : RTk (ktrG S s k m).1 (trG M ns s k m).1 ∧ RIm (ktrG S s k m).1 (trG M ns s k m).1 ∧ (ktrG S s k m).2 = (trG M ns s k m).2 := by
  have rr := r
  obtain ⟨r0, r3, r10, r1, r2, r4⟩ := r
  obtain ⟨h0, h5⟩ := h.2.2.2.1
  unfold ktrG trG
  rw [r0.trans h0]
  by_cases q : tP ns s
  · rw [if_pos ((xp_iff (by omega)).mpr q), if_pos q]
    by_cases q2 : soP k m
    · rw [if_pos (so_iff.mpr q2), if_pos q2]
      refine ⟨⟨r0, r3, r10, ?_, ?_, r4⟩, ri, ?_⟩
      · show putF (S.2 14) s k = (M.2.1 1).set s.toNatClampNeg k
        unfold putF
        rw [if_pos q.1, r1]
      · show putF (S.2 15) s m = (M.2.1 2).set s.toNatClampNeg m
        unfold putF
        rw [if_pos q.1, r2]
      · show atF (S.2 14) s = (M.2.1 1).getD s.toNatClampNeg 0
        rw [atF_tP q, r1]
    · rw [if_neg (fun z => q2 (so_iff.mp z)), if_neg q2]
      exact ⟨rr, ri, rfl⟩
  · rw [if_neg (fun z => q ((xp_iff (by omega)).mp z)), if_neg q]
    exact ⟨rr, ri, rfl⟩
theorem image_rel (r : RTk S M) : RTk (cN (kepS S (S.2 14) (S.2 15) (S.2 16)) 8 1) (imM M) ∧ RIm (cN (kepS S (S.2 14) (S.2 15) (S.2 16)) 8 1) (imM M) ∧ S.1 134 = M.1 3 := by
  obtain ⟨r0, r3, r10, r1, r2, r4⟩ := r
  refine ⟨⟨r0, r3, r10, r1, r2, r4⟩, ⟨rfl, r0, r3, r10, ?_, r4⟩, r3⟩
  show M.2.1 1 ++ M.2.1 2 = S.2 14 ++ S.2 15
  rw [r1, r2]
theorem back_rel (r : RTk S M) (ri : RIm S M) (hT : TkL S) : RTk (kbkG S).1 (bkG M).1 ∧ RIm (kbkG S).1 (bkG M).1 ∧ (kbkG S).2 = (bkG M).2 := by
  have rr := ri
  obtain ⟨i8, i0, i3, i10, ik, i4⟩ := ri
  unfold kbkG bkG
  rw [i8]
  by_cases q : M.1 11 = 0
  · rw [if_pos q, if_pos q]
    exact ⟨r, rr, rfl⟩
  · rw [if_neg q, if_neg q]
    refine ⟨⟨i0, i3, i10, ?_, ?_, i4⟩, ⟨i8, i0, i3, i10, ik, i4⟩, i3⟩
    · show S.2 18 = (M.2.1 15).take 5
      rw [ik, ← hT.2.2.2.1, List.take_left]
    · show S.2 19 = (M.2.1 15).drop 5
      rw [ik, ← hT.2.2.2.1, List.drop_left]
end REL
end
section
-- 97f.rel2
/-! BOTH SIDES ALIKE: sayings, the law -/
section REL2
variable {S : CS} {M : MS} {nt ns nk ta : Nat}
theorem x2_iff {u : Int32} : kxP 2 u ↔ p1P u := and_congr_right (fun _ => ltle (by decide))
theorem x3_iff {u : Int32} : kxP 3 u ↔ p2P u := and_congr_right (fun _ => ltle (by decide))
theorem three_n (n : Nat) : Int32.ofInt 3 * nI n = nI (3 * n) := nI_mul 3 n
theorem say_rel (h : MInv M nt ns nk) (r : RTk S M) (ri : RIm S M) (e9 : S.1 93 = M.1 9) (s t u : Int32) : RTk (ksyG S s t u).1 (syG M nt ns nk s t u).1 ∧ RIm (ksyG S s t u).1 (syG M nt ns nk s t u).1 ∧ (ksyG S s t u).2 = (syG M nt ns nk s t u).2 := by
  have rr := r
  obtain ⟨r0, r3, r10, r1, r2, r4⟩ := r
  obtain ⟨h0, h5⟩ := h.2.2.2.1
  obtain ⟨h9, h91, h96⟩ := h.2.2.1
  obtain ⟨h3, h12⟩ := h.2.2.2.2.1
  have e0 := r0.trans h0
  have e9 := e9.trans h9
  have e3 := r3.trans h3
  unfold ksyG syG
  by_cases q : tP ns s ∧ tP nt t
  · rw [if_pos (show kxP (S.1 133) s ∧ kxP (S.1 93) t by rw [e0, e9]; exact ⟨(xp_iff (by omega)).mpr q.1, (xp_iff (by omega)).mpr q.2⟩), if_pos q]
    by_cases q2 : p1P u
    · rw [if_pos (x2_iff.mpr q2), if_pos q2]
      by_cases e : nk = 12
      · rw [if_neg (by rw [e3, e]; decide), if_pos e]
        exact ⟨rr, ri, rfl⟩
      · rw [if_pos (by rw [e3]; exact nI_lt (b := 12) (by omega) (by decide)), if_neg e]
        refine ⟨⟨r0, ?_, r10, r1, r2, ?_⟩, ri, ?_⟩
        · show S.1 134 + Int32.ofInt 1 = nI (nk + 1)
          rw [e3]
          exact nI_1 nk
        · show putF (putF (putF (S.2 16) (Int32.ofInt 3 * S.1 134) s) (Int32.ofInt 3 * S.1 134 + Int32.ofInt 1) t) (Int32.ofInt 3 * S.1 134 + Int32.ofInt 2) u = (((M.2.1 4).set (3 * nk) s).set (3 * nk + 1) t).set (3 * nk + 2) u
          rw [e3, three_n, show nI (3 * nk) + Int32.ofInt 1 = nI (3 * nk + 1) from nI_add _ 1, show nI (3 * nk) + Int32.ofInt 2 = nI (3 * nk + 2) from nI_add _ 2, putF_n (by omega), putF_n (by omega), putF_n (by omega), r4]
        · show S.1 134 + 1 - 1 = nI nk
          rw [e3]
          exact Int32.add_sub_cancel _ _
    · rw [if_neg (fun z => q2 (x2_iff.mp z)), if_neg q2]
      exact ⟨rr, ri, rfl⟩
  · rw [if_neg (show ¬ (kxP (S.1 133) s ∧ kxP (S.1 93) t) by rw [e0, e9]; exact fun z => q ⟨(xp_iff (by omega)).mp z.1, (xp_iff (by omega)).mp z.2⟩), if_neg q]
    exact ⟨rr, ri, rfl⟩
theorem unsay_rel (h : MInv M nt ns nk) (r : RTk S M) (ri : RIm S M) : RTk (kunG S).1 (if M.1 3 = Int32.ofInt 0 then M else mN M 3 (M.1 3 - Int32.ofInt 1)) ∧ RIm (kunG S).1 (if M.1 3 = Int32.ofInt 0 then M else mN M 3 (M.1 3 - Int32.ofInt 1)) ∧ (kunG S).2 = (if M.1 3 = Int32.ofInt 0 then Int32.ofInt (-3) else M.1 3 - Int32.ofInt 1) := by
  have rr := r
  obtain ⟨r0, r3, r10, r1, r2, r4⟩ := r
  obtain ⟨h3, h12⟩ := h.2.2.2.2.1
  unfold kunG
  rw [r3]
  by_cases q : M.1 3 = Int32.ofInt 0
  · rw [if_neg (by rw [q]; decide), if_pos q, if_pos q]
    exact ⟨rr, ri, rfl⟩
  · have hk : 1 ≤ nk := Nat.pos_of_ne_zero (fun z => q (by rw [h3, z]; rfl))
    rw [if_pos (by rw [h3]; exact nI_lt (a := 0) (by omega) (by omega)), if_neg q, if_neg q]
    exact ⟨⟨r0, rfl, r10, r1, r2, r4⟩, ri, rfl⟩
theorem force_rel (r : RTk S M) (ri : RIm S M) (h : MInv M nt ns nk) (e9 : S.1 93 = M.1 9) (v : Int32) : RTk (kfoG S v).1 (if frP M v then mN M 10 v else M) ∧ RIm (kfoG S v).1 (if frP M v then mN M 10 v else M) ∧ (kfoG S v).2 = (if frP M v then M.1 10 else Int32.ofInt (-2)) := by
  have rr := r
  obtain ⟨r0, r3, r10, r1, r2, r4⟩ := r
  obtain ⟨h9, h91, h96⟩ := h.2.2.1
  have e : kxP (S.1 93) v ↔ frP M v := by
    rw [e9]
    show kxP (M.1 9) v ↔ inP v (Int32.ofInt 0) (M.1 9 - Int32.ofInt 1)
    rw [h9]
    exact xp_iff (by omega)
  unfold kfoG
  by_cases q : frP M v
  · rw [if_pos (e.mpr q), if_pos q, if_pos q]
    exact ⟨⟨r0, r3, rfl, r1, r2, r4⟩, ri, r10⟩
  · rw [if_neg (fun z => q (e.mp z)), if_neg q, if_neg q]
    exact ⟨rr, ri, rfl⟩
end REL2
end
section
-- 97g.rel3
/-! BOTH SIDES ALIKE: what was said; sheets' cells -/
section REL3
variable {S : CS} {M : MS} {nt ns nk ta : Nat}
theorem said_rel (h : MInv M nt ns nk) (r : RTk S M) (k what : Int32) : ksdG S k what = sdG M nk k what := by
  obtain ⟨r0, r3, r10, r1, r2, r4⟩ := r
  obtain ⟨h3, h12⟩ := h.2.2.2.2.1
  unfold ksdG sdG
  rw [r3.trans h3]
  by_cases q : tP nk k
  · rw [if_pos ((xp_iff (by omega)).mpr q), if_pos q]
    by_cases q2 : p2P what
    · rw [if_pos (x3_iff.mpr q2), if_pos q2]
      obtain ⟨a, ha, rfl⟩ := inN (by omega) q
      rcases in02 q2 with rfl | rfl | rfl
      · show atF (S.2 16) (Int32.ofInt 3 * nI a + 0) = _
        rw [r4, three_n, show nI (3 * a) + 0 = nI (3 * a + 0) from nI_add _ 0, atF_n (by omega), nI_clamp (by omega)]
        rfl
      · show atF (S.2 16) (Int32.ofInt 3 * nI a + 1) = _
        rw [r4, three_n, show nI (3 * a) + 1 = nI (3 * a + 1) from nI_add _ 1, atF_n (by omega), nI_clamp (by omega)]
        rfl
      · show atF (S.2 16) (Int32.ofInt 3 * nI a + 2) = _
        rw [r4, three_n, show nI (3 * a) + 2 = nI (3 * a + 2) from nI_add _ 2, atF_n (by omega), nI_clamp (by omega)]
        rfl
    · rw [if_neg (fun z => q2 (x3_iff.mp z)), if_neg q2]
  · rw [if_neg (fun z => q ((xp_iff (by omega)).mp z)), if_neg q]
/-- the sheets -/
def RSh (S : CS) (M : MS) : Prop := S.2 22 = M.2.1 17 ∧ S.2 23 = M.2.1 18 ∧ S.2 24 = M.2.1 19
theorem x4_iff {u : Int32} : kxP 4 u ↔ p3P u := and_congr_right (fun _ => ltle (by decide))
theorem cell_rel (hs : ShOk M) (r : RSh S M) (s i v : Int32) : RSh (kceG S s i v).1 (ceG M s i v).1 ∧ (kceG S s i v).2 = (ceG M s i v).2 := by
  have rr := r
  obtain ⟨r1, r2, r3⟩ := r
  unfold kceG ceG
  by_cases q : p3P s
  · rw [if_pos (x4_iff.mpr q), if_pos q]
    obtain ⟨a, ha, rfl⟩ := in03n q
    obtain ⟨hm, z, hz, ez⟩ := hs a ha
    rw [r1, r2, atF_n (by omega), atF_n (by omega), nI_clamp (by omega), ez]
    by_cases q2 : (M.2.1 17).getD a 0 = -1
    · rw [if_pos q2, if_pos q2]
      exact ⟨rr, rfl⟩
    · rw [if_neg q2, if_neg q2]
      by_cases q3 : tP z i
      · rw [if_pos ((xp_iff (by omega)).mpr q3), if_pos (show (0 : Int32) ≤ i ∧ i ≤ nI z - 1 from q3)]
        obtain ⟨b, hb, rfl⟩ := inN (by omega) q3
        refine ⟨⟨r1, r2, ?_⟩, rfl⟩
        show putF (S.2 24) (nI a * Int32.ofInt 40 + nI b) (wrV S (nI a) v) = (M.2.1 19).set (40 * a + (nI b).toNatClampNeg) (ceV ((M.2.1 17).getD a 0) v)
        have e : nI a * Int32.ofInt 40 + nI b = nI (40 * a + b) := by rw [show nI a * Int32.ofInt 40 = nI (a * 40) from nI_mul a 40, nI_add, Nat.mul_comm]
        rw [e, putF_n (by omega), nI_clamp (by omega), r3]
        unfold wrV ceV
        rw [r1, atF_n (by omega)]
      · rw [if_neg (fun y => q3 ((xp_iff (by omega)).mp y)), if_neg (show ¬ ((0 : Int32) ≤ i ∧ i ≤ nI z - 1) from q3)]
        exact ⟨rr, rfl⟩
  · rw [if_neg (fun z => q (x4_iff.mp z)), if_neg q]
    exact ⟨rr, rfl⟩
end REL3
end
section
-- 97h.rel4
/-! BOTH SIDES ALIKE: sheets made -/
section REL4
variable {l : Launch} {X : List (List Int32)} {S : CS} {T : AH} {M : MS} {nt ns nk ta : Nat}
def kmkS (S : CS) (a : Nat) (sort n : Int32) : CS := cR (cR (cR S 22 ((S.2 22).set a sort)) 23 ((S.2 23).set a n)) 24 (zeC (fun _ => 0) (S.2 24) a 40)
set_option maxRecDepth 100000 in
theorem P_make (hL : CLen S) {a : Nat} (ha : a < 4) (sort n : Int32) : Ctr l 1 X sgX3_make [.ref 21, .int (nI a), .int sort, .int n] (encC S ++ T) (fun h w => h = encC (kmkS S a sort n) ++ T ∧ w = none) := by
  have h24 := hL.lt 24
  have e22 : putF (S.2 22) (nI a) sort = (S.2 22).set a sort := putF_n (by omega)
  have e23 : putF (S.2 23) (nI a) n = (S.2 23).set a n := putF_n (by omega)
  unfold kmkS
  rw [← e22, ← e23]
  refine Ctr.of okX3_make rfl (Nat.le_of_ble_eq_true rfl) (run_sound okX3_make (fun i => Nat.beq i 12) 200 ?_)
  have key : ∀ j, j ≤ 40 → WP l (rmD 1 0 0) X sgX3_make kX3_make (fun h w => h = encC (cR (cR (cR S 22 (putF (S.2 22) (nI a) sort)) 23 (putF (S.2 23) (nI a) n)) 24 (zeC (fun _ => 0) (S.2 24) a 40)) ++ T ∧ w = none) 12 [some (.ref 21), some (.int (nI a)), some (.int sort), some (.int n), some (.int (nI j))] [] (encC (cR (cR (cR S 22 (putF (S.2 22) (nI a) sort)) 23 (putF (S.2 23) (nI a) n)) 24 (zeC (fun _ => 0) (S.2 24) a j)) ++ T) 0 0 := by
    refine down ?_ (fun j hj ih => ?_)
    · exact run_sound okX3_make (fun i => Nat.beq i 12) 200 (brT (Int32.le_refl _) ⟨rfl, rfl, rfl⟩)
    · refine run_sound okX3_make (fun i => Nat.beq i 12) 200 (brF (ge_no (n := 40) rfl hj (by decide)) (kH (c_put (xs := zeC (fun _ => 0) (S.2 24) a j) rfl rfl (by rw [zeC_len]; exact h24)) (by decide) ?_))
      have e : nI a * Int32.ofInt 40 + nI j = nI (40 * a + j) := by rw [show nI a * Int32.ofInt 40 = nI (a * 40) from nI_mul a 40, nI_add, Nat.mul_comm]
      have e2 : putF (zeC (fun _ => 0) (S.2 24) a j) (nI a * Int32.ofInt 40 + nI j) 0 = zeC (fun _ => 0) (S.2 24) a (j + 1) := by rw [e, putF_n (by omega)]; rfl
      rw [← e2, ← nI_1 j] at ih
      exact ih
  exact kH (c_put (xs := S.2 22) rfl rfl (hL.lt 22)) (by decide) (kH (c_put (xs := S.2 23) rfl rfl (hL.lt 23)) (by decide) (key 0 (Nat.zero_le _)))
def kshG (S : CS) (s sort n : Int32) : CS × Int32 := if p3P s ∧ m2P sort ∧ (sort = -1 ∨ n ≤ 40) then (if ¬ sort = -1 ∧ n < 0 then (S, -14) else (kmkS S s.toNatClampNeg sort (if sort = -1 then 0 else n), 1)) else (S, -2)
set_option maxRecDepth 100000 in
theorem P_sheet (hL : CLen S) (s sort n : Int32) : Ctr l 2 X sgX7_sheet [.ref 0, .int s, .int sort, .int n] (encC S ++ T) (kpQ T (kshG S s sort n)) := by
  refine Ctr.of okX7_sheet rfl (Nat.le_of_ble_eq_true rfl) (run_sound okX7_sheet noCut 200 ?_)
  refine kH (k_B s 4 3 (by decide)) (by decide) (brB' (fun q => kp (if_neg (fun z => q z.1))) (fun q => br (fun h1 => kp (if_neg (fun z => absurd h1 (Int32.not_lt.mpr z.2.1.1)))) (fun h1 => br (fun h2 => ?_) (fun h2 => kp (if_neg (fun z => h2 z.2.1.2))))))
  have q2 : m2P sort := ⟨Int32.not_lt.mp h1, h2⟩
  obtain ⟨a, ha, rfl⟩ := in03n q
  refine br (fun h3 => ⟨1, _, by decide, P_make hL ha _ _, ?_⟩) (fun h3 => br (fun h4 => br (fun h5 => ⟨1, _, by decide, P_make hL ha _ _, ?_⟩) (fun h5 => kp ?_)) (fun h4 => kp ?_))
  · rintro hp' w ⟨rfl, rfl⟩
    have h3 : sort = -1 := h3
    refine kp (((if_pos ⟨q, q2, Or.inl h3⟩).trans (if_neg (fun z => z.1 h3))).trans ?_)
    rw [nI_clamp (by omega), if_pos h3, h3]
    rfl
  · rintro hp' w ⟨rfl, rfl⟩
    have h3 : ¬ sort = -1 := h3
    refine kp (((if_pos ⟨q, q2, Or.inr h4⟩).trans (if_neg (fun z => absurd z.2 (Int32.not_lt.mpr h5)))).trans ?_)
    rw [nI_clamp (by omega), if_neg h3]
    rfl
  · exact (if_pos ⟨q, q2, Or.inr h4⟩).trans (if_pos ⟨h3, Int32.not_le.mp h5⟩)
  · exact if_neg (fun z => z.2.2.elim h3 h4)
theorem kmk24 (S : CS) (a : Nat) (sort n : Int32) : (kmkS S a sort n).2 24 = zeC (fun _ => 0) (S.2 24) a 40 := by
  unfold kmkS
  generalize zeC (fun _ => 0) (S.2 24) a 40 = c
  rfl
theorem shM19 (M : MS) (a : Nat) (sort n : Int32) : (shM M a sort n).2.1 19 = zeC (fun _ => 0) (M.2.1 19) a 40 := by
  unfold shM
  generalize zeC (fun _ => 0) (M.2.1 19) a 40 = c
  rfl
theorem sheet_rel (r : RSh S M) (s sort n : Int32) : RSh (kshG S s sort n).1 (shG M s sort n).1 ∧ (kshG S s sort n).2 = (shG M s sort n).2 := by
  have rr := r
  obtain ⟨r1, r2, r3⟩ := r
  unfold kshG shG
  by_cases q : p3P s ∧ m2P sort ∧ (sort = -1 ∨ n ≤ 40)
  · rw [if_pos q, if_pos q]
    by_cases q2 : ¬ sort = -1 ∧ n < 0
    · rw [if_pos q2, if_pos q2]
      exact ⟨rr, rfl⟩
    · rw [if_neg q2, if_neg q2]
      refine ⟨⟨?_, ?_, ?_⟩, rfl⟩
      · show (S.2 22).set s.toNatClampNeg sort = (M.2.1 17).set s.toNatClampNeg sort
        rw [r1]
      · show (S.2 23).set s.toNatClampNeg (if sort = -1 then 0 else n) = (M.2.1 18).set s.toNatClampNeg (if sort = -1 then 0 else n)
        rw [r2]
      · exact (kmk24 S _ _ _).trans ((congrArg (fun c => zeC (fun _ => 0) c s.toNatClampNeg 40) r3).trans (shM19 M _ _ _).symm)
  · rw [if_neg q, if_neg q]
    exact ⟨rr, rfl⟩
end REL4
end
