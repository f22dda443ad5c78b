/-! THE REFERENCE's next token -/
section NEXT2
variable {l : Launch} {X : List (List Int32)} {S : CS} {M : MS}
abbrev isLet (c : Int32) : Prop := Int32.ofInt 97 ≤ c ∧ c ≤ Int32.ofInt 122
abbrev isDig (c : Int32) : Prop := Int32.ofInt 48 ≤ c ∧ c ≤ Int32.ofInt 57
def skR (tp : List Int32) : Nat → Nat → Nat
  | 0, a => a
  | m + 1, a => if tp.getD a 0 = Int32.ofInt 32 then skR tp m (a + 1) else if tp.getD a 0 = Int32.ofInt 10 then skR tp m (a + 1) else a
def runW (tp : List Int32) : Nat → Nat → Nat
  | 0, a => a
  | m + 1, a => if isLet (tp.getD a 0) then runW tp m (a + 1) else a
def dgR (tp : List Int32) : Nat → Nat → Nat → Int32 → Nat × Nat × Int32
  | 0, a, n, v => (a, n, v)
  | m + 1, a, n, v => if isDig (tp.getD a 0) then dgR tp m (a + 1) (n + 1) (if Int32.ofInt 4 ≤ nI n then Int32.ofInt 0 else Int32.ofInt 10 * v + tp.getD a 0 - Int32.ofInt 48) else (a, n, v)
def sgR (c : Int32) : Bool :=
  if c = Int32.ofInt 40 then true else if c = Int32.ofInt 41 then true else if c = Int32.ofInt 59 then true else if c = Int32.ofInt 43 then true else if c = Int32.ofInt 45 then true else if c = Int32.ofInt 42 then true else if c = Int32.ofInt 60 then true else if c = Int32.ofInt 61 then true else false
def tkV (x : Int32) : Int32 := if Int32.ofInt 3 ≤ x then (if Int32.ofInt 9 ≤ x then (if x = Int32.ofInt 12 then Int32.ofInt (-1) else Int32.ofInt 4 + x - Int32.ofInt 9) else Int32.ofInt 2) else Int32.ofInt 3
def vaV (x : Int32) : Int32 := if Int32.ofInt 3 ≤ x then x - Int32.ofInt 3 else x
/-- begun, at, token, value: no blank at b -/
def nextT (ws tp : List Int32) (t b : Nat) : Nat × Nat × Int32 × Int32 :=
  if b = t then (b, b, Int32.ofInt 0, Int32.ofInt 0)
  else if isLet (tp.getD b 0) then (b, runW tp (t - b) b, tkV (nI (wfF ws tp b (runW tp (t - b) b) 12 0)), vaV (nI (wfF ws tp b (runW tp (t - b) b) 12 0)))
  else if isDig (tp.getD b 0) then (b, (dgR tp (t - b) b 0 (Int32.ofInt 0)).1, (if nI (dgR tp (t - b) b 0 (Int32.ofInt 0)).2.1 ≤ Int32.ofInt 4 then Int32.ofInt 1 else Int32.ofInt (-1)), (dgR tp (t - b) b 0 (Int32.ofInt 0)).2.2)
  else (b, b + 1, if sgR (tp.getD b 0) = true then tp.getD b 0 else Int32.ofInt (-1), Int32.ofInt 0)
def nxtF (ws tp : List Int32) (t a : Nat) : Nat × Nat × Int32 × Int32 := nextT ws tp t (skR tp (t - a) a)
abbrev nxM (M : MS) (a b : Nat) (tk v : Int32) : MS := mN (mN (mN (mN M 21 (nI a)) 22 (nI b)) 23 tk) 24 v
abbrev nxQ (S : CS) (M : MS) (r : Nat × Nat × Int32 × Int32) : AH → Option Value → Prop := fun h w => h = mk S (nxM M r.2.1 r.1 r.2.2.1 r.2.2.2) ∧ w = none
theorem MLen.nx (h : MLen M) {a b : Nat} {tk v : Int32} : MLen (nxM M a b tk v) := h
theorem runW_ge (tp : List Int32) : ∀ m a, a ≤ runW tp m a
  | 0, _ => Nat.le_refl _
  | m + 1, a => by
    unfold runW
    split
    · exact Nat.le_trans (Nat.le_succ a) (runW_ge tp m (a + 1))
    · exact Nat.le_refl _
theorem runW_le (tp : List Int32) : ∀ m a, runW tp m a ≤ a + m
  | 0, _ => Nat.le_refl _
  | m + 1, a => by
    unfold runW
    split
    · have := runW_le tp m (a + 1); omega
    · omega
theorem nxM_1 {a b : Nat} {tk v : Int32} : nxM M (a + 1) b tk v = mN (mN (mN (mN M 21 (nI a + 1)) 22 (nI b)) 23 tk) 24 v := by rw [nI_1]
def cN8 (i : Nat) : Bool := Nat.beq i 0 || Nat.beq i 26 || Nat.beq i 53 || Nat.beq i 74 || Nat.beq i 121 || Nat.beq i 162 || Nat.beq i 198
set_option maxRecDepth 100000 in
set_option maxHeartbeats 4000000 in
theorem nx_letters (hM : MLen M) {t : Nat} (ht : M.1 6 = nI t) (ht2 : t ≤ 160) (r : Nat × Nat × Int32 × Int32) (b : Nat) (c : Int32)
    (hr : r = (b, runW (M.2.1 5) (t - b) b, tkV (nI (wfF (M.2.1 25) (M.2.1 5) b (runW (M.2.1 5) (t - b) b) 12 0)), vaV (nI (wfF (M.2.1 25) (M.2.1 5) b (runW (M.2.1 5) (t - b) b) 12 0)))) :
    ∀ a, a ≤ t → b ≤ a → runW (M.2.1 5) (t - b) b = runW (M.2.1 5) (t - a) a → WP l (rmD 1 0 0) X sgX8_next kX8_next (nxQ S M r) 53 [some (.ref 27), some (.int c), none] [] (mk S (nxM M a b (Int32.ofInt 0) (Int32.ofInt 0))) 0 0 := by
  have h5 : (M.2.1 5).length = 160 := hM.2.2.2.1
  have fin : ∀ a, a ≤ t → b ≤ a → runW (M.2.1 5) (t - b) b = a → ∀ x, x = nI (wfF (M.2.1 25) (M.2.1 5) b a 12 0) → r = (b, a, tkV x, vaV x) := by
    intro a ha hba he x hx
    rw [hx, ← he]; exact hr
  have put : ∀ a x tk va, r = (b, a, tkV x, vaV x) → tkV x = tk → vaV x = va → mk S (nxM M a b tk va) = mk S (nxM M r.2.1 r.1 r.2.2.1 r.2.2.2) := by
    intro a x tk va h1 h2 h3
    subst h2 h3
    rw [h1]
  have last : ∀ a, a ≤ t → b ≤ a → runW (M.2.1 5) (t - b) b = a → WP l (rmD 1 0 0) X sgX8_next kX8_next (nxQ S M r) 74 [some (.ref 27), some (.int c), none] [] (mk S (nxM M a b (Int32.ofInt 0) (Int32.ofInt 0))) 0 0 := by
    intro a ha hba he
    have hx := fin a ha hba he _ rfl
    have hw : Ans l 0 X sgX8_wordFrom [.ref 27, .int (nI b), .int (nI a)] (mk S (nxM M a b (Int32.ofInt 0) (Int32.ofInt 0))) (nI (wfF (M.2.1 25) (M.2.1 5) b a 12 0)) := m_wordFrom (M := nxM M a b (Int32.ofInt 0) (Int32.ofInt 0)) hM hba (by omega)
    generalize nI (wfF (M.2.1 25) (M.2.1 5) b a 12 0) = x at hx hw
    refine run_sound okX8_next cN8 300 (kH hw (by decide) ?_)
    refine br (fun q1 => br (fun q2 => And.intro (fun q3 => ?_) (fun q3 => ?_)) (fun q2 => ?_)) (fun q1 => ?_)
    · refine And.intro trivial (brT q1 (And.intro trivial ⟨rfl, put a x (Int32.ofInt (-1)) (x - Int32.ofInt 3) hx ?_ ?_, rfl⟩))
      · rw [tkV, if_pos q1, if_pos q2, if_pos q3]
      · rw [vaV, if_pos q1]
    · refine And.intro trivial (brT q1 (And.intro trivial ⟨rfl, put a x (Int32.ofInt 4 + x - Int32.ofInt 9) (x - Int32.ofInt 3) hx ?_ ?_, rfl⟩))
      · rw [tkV, if_pos q1, if_pos q2, if_neg q3]
      · rw [vaV, if_pos q1]
    · refine And.intro trivial (brT q1 (And.intro trivial ⟨rfl, put a x (Int32.ofInt 2) (x - Int32.ofInt 3) hx ?_ ?_, rfl⟩))
      · rw [tkV, if_pos q1, if_neg q2]
      · rw [vaV, if_pos q1]
    · refine And.intro trivial (brF q1 (And.intro trivial ⟨rfl, put a x (Int32.ofInt 3) x hx ?_ ?_, rfl⟩))
      · rw [tkV, if_neg q1]
      · rw [vaV, if_neg q1]
  refine down (fun hb h => ?_) (fun a ha ih hb h => ?_)
  · rw [Nat.sub_self] at h
    exact run_sound okX8_next cN8 300 (brT (ge_end ht) (last t (Nat.le_refl _) hb h))
  · rw [show t - a = (t - (a + 1)) + 1 by omega, runW] at h
    have i1 : (nI a).toNatClampNeg = a := nI_clamp (by omega)
    refine run_sound okX8_next cN8 300 (brF (ge_no ht ha (by omega)) (Exists.intro _ (And.intro rfl (And.intro (show vp_in (nI a) (M.2.1 5).length by rw [h5]; exact vp_nI (by omega) (by decide)) (kH (m_in _ _ _) (by decide) (brB' (fun q => ?_) (fun q => ?_)))))))
    · have q2 : ¬ isLet ((M.2.1 5).getD a 0) := by rw [← i1]; exact q
      exact last a (by omega) hb (h.trans (if_neg q2))
    · have q2 : isLet ((M.2.1 5).getD a 0) := by rw [← i1]; exact q
      have ih := ih (by omega) (h.trans (if_pos q2))
      rw [nxM_1] at ih
      exact And.intro rfl (And.intro trivial ih)
set_option maxRecDepth 100000 in
set_option maxHeartbeats 4000000 in
theorem nx_digits (hM : MLen M) {t : Nat} (ht : M.1 6 = nI t) (ht2 : t ≤ 160) (r : Nat × Nat × Int32 × Int32) (b : Nat) (c : Int32) :
    ∀ a, a ≤ t → ∀ n v, r = (b, (dgR (M.2.1 5) (t - a) a n v).1, (if nI (dgR (M.2.1 5) (t - a) a n v).2.1 ≤ Int32.ofInt 4 then Int32.ofInt 1 else Int32.ofInt (-1)), (dgR (M.2.1 5) (t - a) a n v).2.2) → WP l (rmD 1 0 0) X sgX8_next kX8_next (nxQ S M r) 121 [some (.ref 27), some (.int c), some (.int (nI n))] [] (mk S (nxM M a b (Int32.ofInt 0) v)) 0 0 := by
  have h5 : (M.2.1 5).length = 160 := hM.2.2.2.1
  have last : ∀ a n v, r = (b, a, (if nI n ≤ Int32.ofInt 4 then Int32.ofInt 1 else Int32.ofInt (-1)), v) → WP l (rmD 1 0 0) X sgX8_next kX8_next (nxQ S M r) 162 [some (.ref 27), some (.int c), some (.int (nI n))] [] (mk S (nxM M a b (Int32.ofInt 0) v)) 0 0 := by
    intro a n v hr
    have put : ∀ tk, (if nI n ≤ Int32.ofInt 4 then Int32.ofInt 1 else Int32.ofInt (-1)) = tk → mk S (nxM M a b tk v) = mk S (nxM M r.2.1 r.1 r.2.2.1 r.2.2.2) := by
      intro tk h
      subst h
      rw [hr]
    exact run_sound okX8_next cN8 300 (br (fun q => And.intro trivial ⟨rfl, put (Int32.ofInt 1) (if_pos q), rfl⟩) (fun q => And.intro trivial ⟨rfl, put (Int32.ofInt (-1)) (if_neg q), rfl⟩))
  refine down (fun n v h => ?_) (fun a ha ih n v h => ?_)
  · rw [Nat.sub_self] at h
    exact run_sound okX8_next cN8 300 (brT (ge_end ht) (last t n v h))
  · rw [show t - a = (t - (a + 1)) + 1 by omega, dgR] at h
    have i1 : (nI a).toNatClampNeg = a := nI_clamp (by omega)
    refine run_sound okX8_next cN8 300 (brF (ge_no ht ha (by omega)) (Exists.intro _ (And.intro rfl (And.intro (show vp_in (nI a) (M.2.1 5).length by rw [h5]; exact vp_nI (by omega) (by decide)) (kH (m_in _ _ _) (by decide) (brB' (fun q => ?_) (fun q => ?_)))))))
    · have q2 : ¬ isDig ((M.2.1 5).getD a 0) := by rw [← i1]; exact q
      rw [if_neg q2] at h
      exact last a n v h
    · have q2 : isDig ((M.2.1 5).getD a 0) := by rw [← i1]; exact q
      rw [if_pos q2] at h
      refine br (fun q3 => ?_) (fun q3 => ?_)
      · rw [if_pos q3] at h
        have ih := ih _ _ h
        rw [nxM_1, ← nI_1 n] at ih
        exact And.intro trivial (And.intro rfl (And.intro trivial ih))
      · rw [if_neg q3] at h
        have ih := ih _ _ h
        rw [nxM_1, ← nI_1 n] at ih
        refine Exists.intro _ (And.intro rfl (And.intro (show vp_in (nI a) (M.2.1 5).length by rw [h5]; exact vp_nI (by omega) (by decide)) ?_))
        have e : (M.2.1 5).getD (nI a).toNatClampNeg 0 = (M.2.1 5).getD a 0 := by rw [i1]
        rw [← e] at ih
        exact And.intro trivial (And.intro rfl (And.intro trivial ih))
set_option maxRecDepth 100000 in
set_option maxHeartbeats 4000000 in
theorem nx_begun (hM : MLen M) {t : Nat} (ht : M.1 6 = nI t) (ht2 : t ≤ 160) (r : Nat × Nat × Int32 × Int32) {b : Nat} (hb : b ≤ t) (hr : r = nextT (M.2.1 25) (M.2.1 5) t b) :
    WP l (rmD 1 0 0) X sgX8_next kX8_next (nxQ S M r) 26 [some (.ref 27), none, none] [] (mk S (mN M 21 (nI b))) 0 0 := by
  have h5 : (M.2.1 5).length = 160 := hM.2.2.2.1
  have i1 : (nI b).toNatClampNeg = b := nI_clamp (by omega)
  unfold nextT at hr
  refine run_sound okX8_next cN8 300 (And.intro trivial (And.intro trivial (And.intro trivial (br (fun q => ?_) (fun q => ?_)))))
  · have q2 : nI b = M.1 6 := q
    rw [ht] at q2
    have q3 : b = t := (nI_eq (by omega) (by omega)).mp q2
    rw [if_pos q3] at hr
    subst hr
    exact ⟨rfl, rfl, rfl⟩
  · have q3 : ¬ b = t := fun z => q (show nI b = M.1 6 by rw [ht, z])
    rw [if_neg q3] at hr
    refine Exists.intro _ (And.intro rfl (And.intro (show vp_in (nI b) (M.2.1 5).length by rw [h5]; exact vp_nI (by omega) (by decide)) (kH (m_in _ _ _) (by decide) (brB' (fun q => ?_) (fun q => ?_)))))
    · have q2 : ¬ isLet ((M.2.1 5).getD b 0) := by rw [← i1]; exact q
      rw [if_neg q2] at hr
      refine kH (m_in _ _ _) (by decide) (brB' (fun q => ?_) (fun q => ?_))
      · have q4 : ¬ isDig ((M.2.1 5).getD b 0) := by rw [← i1]; exact q
        rw [if_neg q4] at hr
        have last : ∀ c, c = (M.2.1 5).getD b 0 → ∀ s, sgR c = s → WP l (rmD 1 0 0) X sgX8_next kX8_next (nxQ S M r) 198 [some (.ref 27), some (.int c), none] [.int (bB s)] (mk S (nxM M b b (Int32.ofInt 0) (Int32.ofInt 0))) 0 0 := by
          intro c hc s hs
          rw [← hc, hs] at hr
          subst hr
          cases s with
          | false =>
            refine run_sound okX8_next cN8 300 (brT rfl (And.intro trivial (And.intro rfl (And.intro trivial ⟨rfl, ?_, rfl⟩))))
            show mk S (mN (mN (mN (mN M 21 (nI b + 1)) 22 (nI b)) 23 (Int32.ofInt (-1))) 24 (Int32.ofInt 0)) = mk S (nxM M (b + 1) b (Int32.ofInt (-1)) (Int32.ofInt 0))
            rw [nxM_1]
          | true =>
            refine run_sound okX8_next cN8 300 (brF (by decide) (And.intro trivial (And.intro rfl (And.intro trivial ⟨rfl, ?_, rfl⟩))))
            show mk S (mN (mN (mN (mN M 21 (nI b + 1)) 22 (nI b)) 23 c) 24 (Int32.ofInt 0)) = mk S (nxM M (b + 1) b c (Int32.ofInt 0))
            rw [nxM_1]
        have last := last _ (show (M.2.1 5).getD (nI b).toNatClampNeg 0 = (M.2.1 5).getD b 0 by rw [i1])
        exact br (fun q1 => last true (if_pos q1)) (fun q1 => br (fun q2 => last true ((if_neg q1).trans (if_pos q2))) (fun q2 => br (fun q3 => last true ((if_neg q1).trans ((if_neg q2).trans (if_pos q3)))) (fun q3 => br (fun q4 => last true ((if_neg q1).trans ((if_neg q2).trans ((if_neg q3).trans (if_pos q4))))) (fun q4 => br (fun q5 => last true ((if_neg q1).trans ((if_neg q2).trans ((if_neg q3).trans ((if_neg q4).trans (if_pos q5)))))) (fun q5 => br (fun q6 => last true ((if_neg q1).trans ((if_neg q2).trans ((if_neg q3).trans ((if_neg q4).trans ((if_neg q5).trans (if_pos q6))))))) (fun q6 => br (fun q7 => last true ((if_neg q1).trans ((if_neg q2).trans ((if_neg q3).trans ((if_neg q4).trans ((if_neg q5).trans ((if_neg q6).trans (if_pos q7)))))))) (fun q7 => And.intro (fun q8 => last true ((if_neg q1).trans ((if_neg q2).trans ((if_neg q3).trans ((if_neg q4).trans ((if_neg q5).trans ((if_neg q6).trans ((if_neg q7).trans (if_pos q8))))))))) (fun q8 => last false ((if_neg q1).trans ((if_neg q2).trans ((if_neg q3).trans ((if_neg q4).trans ((if_neg q5).trans ((if_neg q6).trans ((if_neg q7).trans (if_neg q8))))))))))))))))
      · have q4 : isDig ((M.2.1 5).getD b 0) := by rw [← i1]; exact q
        rw [if_pos q4] at hr
        exact nx_digits hM ht ht2 r b _ b hb 0 (Int32.ofInt 0) hr
    · have q2 : isLet ((M.2.1 5).getD b 0) := by rw [← i1]; exact q
      rw [if_pos q2] at hr
      exact nx_letters hM ht ht2 r b _ hr b hb (Nat.le_refl _) rfl
set_option maxRecDepth 100000 in
set_option maxHeartbeats 4000000 in
theorem m_next (hM : MLen M) {t a : Nat} (ht : M.1 6 = nI t) (ht2 : t ≤ 160) (hat : M.1 21 = nI a) (ha : a ≤ t) : Ctr l 1 X sgX8_next [.ref 27] (mk S M) (nxQ S M (nxtF (M.2.1 25) (M.2.1 5) t a)) := by
  have h5 : (M.2.1 5).length = 160 := hM.2.2.2.1
  refine Ctr.of okX8_next rfl (Nat.le_of_ble_eq_true rfl) ?_
  have key : ∀ b, b ≤ t → skR (M.2.1 5) (t - a) a = skR (M.2.1 5) (t - b) b → WP l (rmD 1 0 0) X sgX8_next kX8_next (nxQ S M (nxtF (M.2.1 25) (M.2.1 5) t a)) 0 [some (.ref 27), none, none] [] (mk S (mN M 21 (nI b))) 0 0 := by
    refine down (fun h => ?_) (fun b hb ih h => ?_)
    · rw [Nat.sub_self] at h
      exact run_sound okX8_next cN8 300 (brT (ge_end ht) (nx_begun hM ht ht2 _ (Nat.le_refl _) (by rw [nxtF, h]; rfl)))
    · rw [show t - b = (t - (b + 1)) + 1 by omega, skR] at h
      have i1 : (nI b).toNatClampNeg = b := nI_clamp (by omega)
      have v1 : vp_in (nI b) (M.2.1 5).length := by rw [h5]; exact vp_nI (by omega) (by decide)
      refine run_sound okX8_next cN8 300 (brF (ge_no ht hb (by omega)) (Exists.intro _ (And.intro rfl (And.intro v1 (br (fun q => ?_) (fun q => Exists.intro _ (And.intro rfl (And.intro v1 (And.intro (fun q2 => ?_) (fun q2 => ?_))))))))))
      · have q3 : (M.2.1 5).getD b 0 = Int32.ofInt 32 := by rw [← i1]; exact q
        rw [if_pos q3] at h
        have ih := ih h
        rw [← nI_1 b] at ih
        exact And.intro rfl (And.intro trivial ih)
      · have q3 : ¬ (M.2.1 5).getD b 0 = Int32.ofInt 32 := by rw [← i1]; exact q
        have q4 : (M.2.1 5).getD b 0 = Int32.ofInt 10 := by rw [← i1]; exact q2
        rw [if_neg q3, if_pos q4] at h
        have ih := ih h
        rw [← nI_1 b] at ih
        exact And.intro rfl (And.intro trivial ih)
      · have q3 : ¬ (M.2.1 5).getD b 0 = Int32.ofInt 32 := by rw [← i1]; exact q
        have q4 : ¬ (M.2.1 5).getD b 0 = Int32.ofInt 10 := by rw [← i1]; exact q2
        rw [if_neg q3, if_neg q4] at h
        exact nx_begun hM ht ht2 _ (by omega) (by rw [nxtF, h])
  have k0 := key a ha rfl
  rw [← hat] at k0
  exact k0
end NEXT2
