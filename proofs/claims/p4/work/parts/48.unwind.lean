/-! THE REFERENCE's held signs, unwound -/
section UNWIND
variable {l : Launch} {X : List (List Int32)} {S : CS} {M : MS}
/-- held (top first), opens, codes -/
abbrev PT : Type := List Int32 × Int32 × List Int32
def unwF (r : Int32) : List Int32 → Int32 → List Int32 → PT
  | [], op, oc => ([], op, oc)
  | s :: hs, op, oc => if rkF s < r then (s :: hs, op, oc) else unwF r hs (op - (if s = Int32.ofInt 13 then Int32.ofInt 1 else if s = Int32.ofInt 19 then Int32.ofInt 1 else Int32.ofInt 0)) (oc ++ [s])
theorem unwF_len (r : Int32) : ∀ hs op oc, (unwF r hs op oc).1.length + (unwF r hs op oc).2.2.length = hs.length + oc.length
  | [], _, _ => rfl
  | s :: hs, op, oc => by
    unfold unwF
    split
    · rfl
    · rw [unwF_len r hs]
      simp only [List.length_append, List.length_cons, List.length_nil]
      omega
def OutR (cd0 cd : List Int32) (tx : Nat) (oc : List Int32) : Prop := cd.length = 1200 ∧ (∀ j, j < 200 * tx → cd.getD j 0 = cd0.getD j 0) ∧ (cd.drop (200 * tx)).take oc.length = oc
theorem OutR.push {cd0 cd : List Int32} {tx : Nat} {oc : List Int32} (h : OutR cd0 cd tx oc) (htx : tx < 6) (ho : oc.length < 200) (v : Int32) : OutR cd0 (cd.set (200 * tx + oc.length) v) tx (oc ++ [v]) := by
  obtain ⟨h1, h2, h3⟩ := h
  refine ⟨by simpa using h1, fun j hj => ?_, ?_⟩
  · rw [← h2 j hj, List.getD_eq_getElem?_getD, List.getD_eq_getElem?_getD, List.getElem?_set_ne (by omega)]
  · apply List.ext_getElem?
    intro j
    by_cases hj : j < oc.length
    · have t := congrArg (fun q : List Int32 => q[j]?) h3
      simp only [List.getElem?_take_of_lt hj, List.getElem?_drop] at t
      rw [List.getElem?_append_left hj, ← t, List.getElem?_take_of_lt (by simp; omega), List.getElem?_drop, List.getElem?_set_ne (by omega)]
    · by_cases e : j = oc.length
      · subst e
        rw [List.getElem?_append_right (Nat.le_refl _), List.getElem?_take_of_lt (by simp), List.getElem?_drop, List.getElem?_set_self (by omega)]
        simp
      · rw [List.getElem?_eq_none (by simp; omega), List.getElem?_eq_none (by simp; omega)]
abbrev pM (M : MS) (cd hd : List Int32) (hm op ou : Int32) : MS := mR (mR (mN (mN (mN M 27 hm) 28 op) 29 ou) 7 cd) 26 hd
theorem MLen.p (h : MLen M) {cd hd : List Int32} {hm op ou : Int32} (h1 : cd.length = 1200) (h2 : hd.length = 200) : MLen (pM M cd hd hm op ou) := by
  obtain ⟨a1, a2, a3, a4, a5, a6, a7, a8, a9, a10, a11, a12, a13, a14, a15, a16, a17, a18⟩ := h
  exact ⟨a1, a2, a3, a4, h1, a6, a7, a8, a9, a10, a11, a12, a13, h2, a15, a16, a17, a18⟩
/-- what the state holds of the parse -/
def InP (S : CS) (M : MS) (cd0 : List Int32) (tx : Nat) (p : PT) (h : AH) : Prop := ∃ cd hd, OutR cd0 cd tx p.2.2 ∧ StkR hd p.1 ∧ h = mk S (pM M cd hd (nI p.1.length) p.2.1 (nI p.2.2.length))
set_option maxRecDepth 100000 in
set_option maxHeartbeats 4000000 in
theorem m_unwinds (hM : MLen M) {tx : Nat} (htx : M.1 9 = nI tx) (htx6 : tx < 6) {cd0 : List Int32} {p : PT} (hb : p.1.length + p.2.2.length ≤ 200) {h0 : AH} (hin : InP S M cd0 tx p h0) (r : Int32) :
    Ctr l 1 X sgX8_unwinds [.ref 27, .int r] h0 (fun h w => InP S M cd0 tx (unwF r p.1 p.2.1 p.2.2) h ∧ w = none) := by
  obtain ⟨cd, hd, ho, hs, rfl⟩ := hin
  refine Ctr.of okX8_unwinds rfl (Nat.le_of_ble_eq_true rfl) ?_
  have key : ∀ (hs : List Int32) (op : Int32) (oc cd hd : List Int32) (x : Option Value), hs.length + oc.length ≤ 200 → unwF r p.1 p.2.1 p.2.2 = unwF r hs op oc → OutR cd0 cd tx oc → StkR hd hs →
      WP l (rmD 1 0 0) X sgX8_unwinds kX8_unwinds (fun h w => InP S M cd0 tx (unwF r p.1 p.2.1 p.2.2) h ∧ w = none) 0 [some (.ref 27), some (.int r), x] [] (mk S (pM M cd hd (nI hs.length) op (nI oc.length))) 0 0 := by
    intro hs
    induction hs with
    | nil =>
      intro op oc cd hd x hb he ho hs
      exact run_sound okX8_unwinds (fun i => Nat.beq i 0) 300 (brT (Int32.le_refl _) ⟨rfl, ⟨cd, hd, by rw [he]; exact ho, by rw [he]; exact hs, by rw [he]; rfl⟩, rfl⟩)
    | cons s hs ih =>
      intro op oc cd hd x hb he ho hst
      have hl : hs.length + 1 + oc.length ≤ 200 := hb
      have e1 : nI (s :: hs).length - Int32.ofInt 1 = nI hs.length := nI_m1 (n := hs.length + 1) (by omega)
      have htop : hd.getD (nI (s :: hs).length - Int32.ofInt 1).toNatClampNeg 0 = s := by
        rw [e1, nI_clamp (by omega)]; exact hst.top
      have v1 : vp_in (nI (s :: hs).length - Int32.ofInt 1) hd.length := by
        rw [e1, hst.1]; exact vp_nI (by omega) (by decide)
      have hrk : ∀ hp, Ans l 0 X sgX8_rank [.int (hd.getD (nI (s :: hs).length - Int32.ofInt 1).toNatClampNeg 0)] hp (rkF s) := by
        intro hp
        rw [htop]; exact m_rank s
      rw [unwF] at he
      refine run_sound okX8_unwinds (fun i => Nat.beq i 0) 300 (brF (nI_ge (Nat.succ_pos _) (by show hs.length + 1 < 2 ^ 31; omega)) (Exists.intro _ (And.intro rfl (And.intro v1 (kH (hrk _) (by decide) (br (fun q => ?_) (fun q => ?_)))))))
      · have q2 : rkF s < r := q
        rw [if_pos q2] at he
        exact ⟨rfl, ⟨cd, hd, by rw [he]; exact ho, by rw [he]; exact hst, by rw [he]⟩, rfl⟩
      · have q2 : ¬ rkF s < r := q
        rw [if_neg q2] at he
        refine And.intro rfl (And.intro trivial (Exists.intro _ (And.intro rfl (And.intro v1 ?_))))
        have hpop : StkR hd hs := hst.pop
        have hput : ∀ op' : Int32, Ctr l 0 X sgX8_puts [.ref 27, .int (hd.getD (nI (s :: hs).length - Int32.ofInt 1).toNatClampNeg 0)] (mk S (pM M cd hd (nI (s :: hs).length - Int32.ofInt 1) op' (nI oc.length))) (fun h w => h = mk S (pM M (cd.set (200 * tx + oc.length) s) hd (nI hs.length) op' (nI (oc.length + 1))) ∧ w = none) := by
          intro op'
          rw [htop, e1]
          exact m_puts (M := pM M cd hd (nI hs.length) op' (nI oc.length)) (hM.p ho.1 hst.1) htx htx6 rfl (by omega) s
        have go : ∀ op' : Int32, op - (if s = Int32.ofInt 13 then Int32.ofInt 1 else if s = Int32.ofInt 19 then Int32.ofInt 1 else Int32.ofInt 0) = op' → ∀ x : Option Value, WP l (rmD 1 0 0) X sgX8_unwinds kX8_unwinds (fun h w => InP S M cd0 tx (unwF r p.1 p.2.1 p.2.2) h ∧ w = none) 0 [some (.ref 27), some (.int r), x] [] (mk S (pM M (cd.set (200 * tx + oc.length) s) hd (nI hs.length) op' (nI (oc.length + 1)))) 0 0 := by
          intro op' hop x
          have := ih op' (oc ++ [s]) (cd.set (200 * tx + oc.length) s) hd x (by simp; omega) (by rw [he, hop]) (ho.push htx6 (by omega) s) hpop
          rw [show (oc ++ [s]).length = oc.length + 1 by simp] at this
          exact this
        refine And.intro rfl (br (fun q3 => ?_) (fun q3 => And.intro (fun q4 => ?_) (fun q4 => ?_)))
        · have q3 : s = Int32.ofInt 13 := htop ▸ q3
          exact And.intro trivial (kH (hput (op - Int32.ofInt 1)) (by decide) (go _ (by rw [if_pos q3]) _))
        · have q3 : ¬ s = Int32.ofInt 13 := htop ▸ q3
          have q4 : s = Int32.ofInt 19 := htop ▸ q4
          exact And.intro trivial (kH (hput (op - Int32.ofInt 1)) (by decide) (go _ (by rw [if_neg q3, if_pos q4]) _))
        · have q3 : ¬ s = Int32.ofInt 13 := htop ▸ q3
          have q4 : ¬ s = Int32.ofInt 19 := htop ▸ q4
          exact And.intro trivial (kH (hput (op - Int32.ofInt 0)) (by decide) (go _ (by rw [if_neg q3, if_neg q4]) _))
  exact key p.1 p.2.1 p.2.2 cd hd none hb rfl ho hs
end UNWIND
