/-! THE REFERENCE in general: what always holds of it is kept -/
section RINV
variable {l : Launch} {X : List (List Int32)} {S : CS} {M : MS} {hp : AH} {nt ns nk : Nat}
theorem txL_le {ws tp : List Int32} {t tx : Nat} : ∀ (m p : Nat) (T : TS), T.2.1 ≤ t → T.2.2.2.1.length ≤ T.2.1 →
    (txL ws tp t tx m p T).2.1 ≤ t ∧ (txL ws tp t tx m p T).2.2.2.1.length ≤ (txL ws tp t tx m p T).2.1 ∧ (txL ws tp t tx m p T).2.2.2.2.length = T.2.2.2.2.length ∧ ∀ j, j < 4 * tx → (txL ws tp t tx m p T).2.2.2.2.getD j 0 = T.2.2.2.2.getD j 0
  | 0, _, T, h1, h2 => ⟨h1, h2, rfl, fun _ _ => rfl⟩
  | m + 1, p, T, h1, h2 => by
    have hsp := nxt_spec ws tp h1
    rw [txL]
    split
    · split
      · have hE := er_spec ws tp t (t + 1) true true (nxtF ws tp t T.2.1).2.1 ([], Int32.ofInt 0, T.2.2.2.1) hsp.1 (by simp [ptL]; omega)
        have hp2 : (erF ws tp t (t + 1) true true (nxtF ws tp t T.2.1).2.1 ([], Int32.ofInt 0, T.2.2.2.1)).2.2.1.length + (erF ws tp t (t + 1) true true (nxtF ws tp t T.2.1).2.1 ([], Int32.ofInt 0, T.2.2.2.1)).2.2.2.2.length ≤ (erF ws tp t (t + 1) true true (nxtF ws tp t T.2.1).2.1 ([], Int32.ofInt 0, T.2.2.2.1)).2.1.2.1 := hE.2
        have hp1 : (erF ws tp t (t + 1) true true (nxtF ws tp t T.2.1).2.1 ([], Int32.ofInt 0, T.2.2.2.1)).2.1.2.1 ≤ t := hE.1
        generalize erF ws tp t (t + 1) true true (nxtF ws tp t T.2.1).2.1 ([], Int32.ofInt 0, T.2.2.2.1) = E at hp1 hp2
        obtain ⟨i1, i2, i3, i4⟩ := txL_le m (p + 1) (E.1, E.2.1.2.1, nI E.2.1.1, E.2.2.2.2, T.2.2.2.2.set (4 * tx + p) (nI T.2.2.2.1.length)) hp1 (by show E.2.2.2.2.length ≤ E.2.1.2.1; omega)
        exact ⟨i1, i2, i3.trans List.length_set, fun j hj => (i4 j hj).trans (getD_set_ne (by omega))⟩
      · exact ⟨hsp.1, Nat.le_trans h2 hsp.2.1, List.length_set, fun j hj => getD_set_ne (by omega)⟩
    · exact ⟨h1, h2, rfl, fun _ _ => rfl⟩
/-- the image -/
def ImOk (M : MS) (nt : Nat) : Prop := M.1 11 = 0 ∨ ∃ ns nk r : Nat, M.1 12 = nI ns ∧ ns ≤ 5 ∧ M.1 13 = nI nk ∧ nk ≤ 12 ∧ M.1 14 = nI r ∧ r < nt ∧ (∀ i, i < 5 → Kd ((M.2.1 15).getD i 0) ((M.2.1 15).getD (5 + i) 0)) ∧ TkOk (M.2.1 16) nt nk
theorem TkOk.mono {xs : List Int32} {nt nt' nk : Nat} (h : TkOk xs nt nk) (q : nt ≤ nt') : TkOk xs nt' nk := fun k hk => by
  obtain ⟨s, t, u, e1, e2, e3, b1, b2, b3⟩ := h k hk
  exact ⟨s, t, u, e1, e2, e3, b1, by omega, b3⟩
theorem ImOk.mono {nt' : Nat} (h : ImOk M nt) (q : nt ≤ nt') : ImOk M nt' := by
  rcases h with h | ⟨a, b, r, h1, h2, h3, h4, h5, h6, h7, h8⟩
  · exact Or.inl h
  · exact Or.inr ⟨a, b, r, h1, h2, h3, h4, h5, by omega, h7, h8.mono q⟩
/-- what always holds of the reference -/
def RInv (M : MS) (nt ns nk ta : Nat) : Prop := MInv M nt ns nk ∧ (M.1 6 = nI ta ∧ ta ≤ 160) ∧ ShOk M ∧ ImOk M nt
theorem RInv.sc {ta : Nat} {z : SZ} (h : RInv M nt ns nk ta) (hz : ScOk z) : RInv (sc M z) nt ns nk ta := ⟨h.1.sc hz, h.2⟩
abbrev RI (M : MS) : Prop := ∃ nt ns nk ta, RInv M nt ns nk ta
/-- what is kept: some state of the reference in which all this holds -/
abbrev rkQ (S : CS) : AH → Option Value → Prop := fun h w => (∃ M, RI M ∧ h = mk S M) ∧ ∃ v : Int32, w = some (.int v)
abbrev rkL (S : CS) : AH → Option Value → Prop := fun h w => (∃ M, RI M ∧ h = mk S M) ∧ ∃ v : Int64, w = some (.long v)
set_option maxRecDepth 100000 in
set_option maxHeartbeats 1000000 in
theorem r_text {ta : Nat} (h : RInv M nt ns nk ta) (h6 : nt < 6) : Ctr l 4 X sgX8_text [.ref 27] (mk S M) (rkQ S) := by
  obtain ⟨hm, ⟨hta, hta2⟩, hs, hi⟩ := h
  obtain ⟨hM, hO, ⟨h9, h91, h96⟩, h0, h3, ⟨r, hr, er⟩, hk5, htk⟩ := hm
  refine (m_text hM hta hta2 h9 h6).weak ?_
  rintro hp w ⟨⟨a, cd, hd, hm, op, tk, v, ho, hhd, rfl⟩, rfl⟩
  refine ⟨?_, _, rfl⟩
  have hle := txL_le (ws := M.2.1 25) (tp := M.2.1 5) (tx := nt) 3 0 (true, 0, M.1 22, [], M.2.1 8) (Nat.zero_le ta) (Nat.zero_le 0)
  have h24 : (M.2.1 8).length = 24 := hM.2.2.2.2.2.1
  have h7 : (M.2.1 7).length = 1200 := hM.2.2.2.2.1
  have more := fun (M' : MS) (h : AllOk M nt) (hT : (txL (M.2.1 25) (M.2.1 5) ta nt 3 0 (true, 0, M.1 22, [], M.2.1 8)).1 = true) => h.more (M' := M') (tx := nt) (t := ta) h6 hta2 h7 h24 hT
  have hE : (txE (M.2.1 25) (M.2.1 5) ta (txL (M.2.1 25) (M.2.1 5) ta nt 3 0 (true, 0, M.1 22, [], M.2.1 8))).1 = true → (txL (M.2.1 25) (M.2.1 5) ta nt 3 0 (true, 0, M.1 22, [], M.2.1 8)).1 = true := by
    intro q
    cases q2 : (txL (M.2.1 25) (M.2.1 5) ta nt 3 0 (true, 0, M.1 22, [], M.2.1 8)).1 with
    | true => rfl
    | false =>
      rw [txE, if_neg (by rw [q2]; decide)] at q
      exact absurd q Bool.false_ne_true
  generalize txL (M.2.1 25) (M.2.1 5) ta nt 3 0 (true, 0, M.1 22, [], M.2.1 8) = W at hle more ho hE
  generalize txE (M.2.1 25) (M.2.1 5) ta W = e at hE
  obtain ⟨i1, i2, i3, i4⟩ := hle
  have i3 : W.2.2.2.2.length = 24 := i3.trans h24
  have i4 : ∀ j, j < 4 * nt → W.2.2.2.2.getD j 0 = (M.2.1 8).getD j 0 := i4
  obtain ⟨M', eM⟩ : ∃ M', mR (pM (xM (mN (mN M 6 (Int32.ofInt 0)) 9 (if e.1 = true then nI (nt + 1) else nI nt)) a e.2 tk v) cd hd hm op (nI W.2.2.2.1.length)) 8 (W.2.2.2.2.set (4 * nt + 3) (nI W.2.2.2.1.length)) = M' := ⟨_, rfl⟩
  have hML : MLen M' := by
    subst eM
    obtain ⟨a1, a2, a3, a4, a5, a6, a7, a8, a9, a10, a11, a12, a13, a14, a15, a16, a17, a18⟩ := hM
    exact ⟨a1, a2, a3, a4, ho.1, (show (W.2.2.2.2.set (4 * nt + 3) (nI W.2.2.2.1.length)).length = 24 by rw [List.length_set]; exact i3), a7, a8, a9, a10, a11, a12, a13, hhd, a15, a16, a17, a18⟩
  have keep : AllOk M' nt := fun t ht p hp => by
    subst eM
    refine (hO t ht p hp).of_eq (fun j hj => ?_) hp (ho.1.trans h7.symm) (by rw [h7]; omega) (fun j hj => ho.2.1 j (by omega))
    show (W.2.2.2.2.set (4 * nt + 3) (nI W.2.2.2.1.length)).getD j 0 = _
    rw [getD_set_ne (by omega)]
    exact i4 j (by omega)
  cases he : e.1 with
  | true =>
    refine ⟨M', ⟨nt + 1, ns, nk, 0, ⟨hML, ?_, ?_, ?_, ?_, ?_, ?_, ?_⟩, ?_, ?_, ?_⟩, by rw [← eM, he]⟩
    · subst eM
      exact more _ hO (hE he) (by omega) ho rfl
    · subst eM
      exact ⟨if_pos he, by omega, by omega⟩
    · subst eM; exact h0
    · subst eM; exact h3
    · subst eM; exact ⟨r, by omega, er⟩
    · subst eM; exact hk5
    · subst eM; exact htk.mono (by omega)
    · subst eM; exact ⟨rfl, Nat.zero_le _⟩
    · subst eM; exact hs
    · subst eM; exact hi.mono (by omega)
  | false =>
    refine ⟨M', ⟨nt, ns, nk, 0, ⟨hML, keep, ?_, ?_, ?_, ?_, ?_, ?_⟩, ?_, ?_, ?_⟩, by rw [← eM, he]⟩
    · subst eM
      exact ⟨if_neg (by rw [he]; decide), by omega, by omega⟩
    · subst eM; exact h0
    · subst eM; exact h3
    · subst eM; exact ⟨r, by omega, er⟩
    · subst eM; exact hk5
    · subst eM; exact htk
    · subst eM; exact ⟨rfl, Nat.zero_le _⟩
    · subst eM; exact hs
    · subst eM; exact hi
set_option maxRecDepth 100000 in
/-- no room for one text more -/
theorem r_text6 {ta : Nat} (h : RInv M 6 ns nk ta) : Ctr l 4 X sgX8_text [.ref 27] (mk S M) (rkQ S) := by
  have h9 := h.1.2.2.1.1
  exact Ctr.of okX8_text rfl (Nat.le_of_ble_eq_true rfl) (run_sound okX8_text noCut 40 (brT h9 ⟨⟨M, ⟨6, ns, nk, ta, h⟩, rfl⟩, _, rfl⟩))
theorem R_text (h : RI M) : Ctr l 4 X sgX8_text [.ref 27] (mk S M) (rkQ S) := by
  obtain ⟨nt, ns, nk, ta, h⟩ := h
  by_cases q : nt < 6
  · exact r_text h q
  · have e : nt = 6 := by have := h.1.2.2.1.2.2; omega
    subst e
    exact r_text6 h
/-- queries -/
theorem R_query {d : Nat} {s : Sig} {a : List Value} {w : Int32} (h : RI M) (q : Ctr l d X s a (mk S M) (zA S M (.int w))) : Ctr l d X s a (mk S M) (rkQ S) := by
  obtain ⟨nt, ns, nk, ta, h⟩ := h
  refine q.weak ?_
  rintro hp w ⟨⟨z, hz, rfl⟩, rfl⟩
  exact ⟨⟨sc M z, ⟨nt, ns, nk, ta, h.sc hz⟩, rfl⟩, _, rfl⟩
theorem R_queryL {d : Nat} {s : Sig} {a : List Value} {w : Int64} (h : RI M) (q : Ctr l d X s a (mk S M) (zA S M (.long w))) : Ctr l d X s a (mk S M) (rkL S) := by
  obtain ⟨nt, ns, nk, ta, h⟩ := h
  refine q.weak ?_
  rintro hp w ⟨⟨z, hz, rfl⟩, rfl⟩
  exact ⟨⟨sc M z, ⟨nt, ns, nk, ta, h.sc hz⟩, rfl⟩, _, rfl⟩
end RINV
