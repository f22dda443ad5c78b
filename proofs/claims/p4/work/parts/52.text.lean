/-! THE REFERENCE reads a text -/
section TEXT
variable {l : Launch} {X : List (List Int32)} {S : CS} {M : MS}
set_option maxRecDepth 100000 in
set_option maxHeartbeats 4000000 in
theorem m_eRead (hM : MLen M) {t tx a : Nat} (ht : M.1 6 = nI t) (ht2 : t ≤ 160) (htx : M.1 9 = nI tx) (htx6 : tx < 6) (hat : M.1 21 = nI a) (ha : a ≤ t) {cd0 oc : List Int32} (hou : M.1 29 = nI oc.length) (hoc : oc.length ≤ a) (ho : OutR cd0 (M.2.1 7) tx oc) :
    Ctr l 3 X sgX8_eRead [.ref 27] (mk S M) (erQ S M cd0 tx (erF (M.2.1 25) (M.2.1 5) t (t + 1) true true a ([], Int32.ofInt 0, oc))) := by
  have h26 : (M.2.1 26).length = 200 := hM.2.2.2.2.2.2.2.2.2.2.2.2.2.1
  refine Ctr.of okX8_eRead rfl (Nat.le_of_ble_eq_true rfl) (run_sound okX8_eRead (fun i => Nat.beq i 10) 300 (And.intro trivial (And.intro trivial ?_)))
  refine er_loop hM ht ht2 htx htx6 cd0 (t + 1) true true a (M.1 22) (M.1 23) (M.1 24) ([], Int32.ofInt 0, oc) _ none ha (by omega) (by simpa [ptL] using hoc) ⟨M.2.1 7, M.2.1 26, ho, ⟨h26, by simp, rfl⟩, ?_⟩
  show mk S (mN (mN M 27 (Int32.ofInt 0)) 28 (Int32.ofInt 0)) = mk S (pM (xM M (nI a) (M.1 22) (M.1 23) (M.1 24)) (M.2.1 7) (M.2.1 26) (nI 0) (Int32.ofInt 0) (nI oc.length))
  rw [← hat, ← hou]
  rfl
theorem er_spec (ws tp : List Int32) (t : Nat) : ∀ (m : Nat) (wa br : Bool) (a : Nat) (p : PT), a ≤ t → ptL p ≤ a → (erF ws tp t m wa br a p).2.1.2.1 ≤ t ∧ ptL (erF ws tp t m wa br a p).2.2 ≤ (erF ws tp t m wa br a p).2.1.2.1 := by
  intro m
  induction m with
  | zero => intro _ _ a p ha hp; exact ⟨ha, hp⟩
  | succ m ih =>
    intro wa br a p ha hp
    have hsp := nxt_spec ws tp ha
    have hl := stE_len wa br (nxtF ws tp t a).2.2.1 (nxtF ws tp t a).2.2.2 p
    unfold erF
    revert hl
    cases he : stE wa br (nxtF ws tp t a).2.2.1 (nxtF ws tp t a).2.2.2 p with
    | inl e =>
      intro hl
      obtain ⟨b, q⟩ := e
      refine ⟨hsp.1, ?_⟩
      show ptL q ≤ (nxtF ws tp t a).2.1
      rcases hsp.2.2.2 with z | z
      · rw [z, stE_0] at he
        cases he
        omega
      · have hl : ptL q ≤ ptL p + 1 := hl
        omega
    | inr e =>
      intro hl
      obtain ⟨wa', br', q⟩ := e
      have hl : ptL q ≤ ptL p + 1 := hl
      have hlt : a < (nxtF ws tp t a).2.1 := by
        rcases hsp.2.2.2 with z | z
        · rw [z, stE_0] at he
          cases he
        · exact z
      exact ih wa' br' _ q hsp.1 (by omega)
def hdF (r : Nat × Nat × Int32 × Int32) (p : Nat) : Bool := if r.2.2.1 = Int32.ofInt 3 then (if r.2.2.2 = nI p then true else false) else false
/-- so far: whether it is one, at, begun, codes, starts -/
abbrev TS : Type := Bool × Nat × Int32 × List Int32 × List Int32
def txL (ws tp : List Int32) (t tx : Nat) : Nat → Nat → TS → TS
  | 0, _, T => T
  | m + 1, p, T => if T.1 = true then
      (if hdF (nxtF ws tp t T.2.1) p = true then
        txL ws tp t tx m (p + 1) ((erF ws tp t (t + 1) true true (nxtF ws tp t T.2.1).2.1 ([], Int32.ofInt 0, T.2.2.2.1)).1,
          (erF ws tp t (t + 1) true true (nxtF ws tp t T.2.1).2.1 ([], Int32.ofInt 0, T.2.2.2.1)).2.1.2.1,
          nI (erF ws tp t (t + 1) true true (nxtF ws tp t T.2.1).2.1 ([], Int32.ofInt 0, T.2.2.2.1)).2.1.1,
          (erF ws tp t (t + 1) true true (nxtF ws tp t T.2.1).2.1 ([], Int32.ofInt 0, T.2.2.2.1)).2.2.2.2, T.2.2.2.2.set (4 * tx + p) (nI T.2.2.2.1.length))
      else (false, (nxtF ws tp t T.2.1).2.1, nI (nxtF ws tp t T.2.1).1, T.2.2.2.1, T.2.2.2.2.set (4 * tx + p) (nI T.2.2.2.1.length)))
    else T
theorem txL_no {ws tp : List Int32} {t tx : Nat} (m p : Nat) {a : Nat} {b : Int32} {oc st : List Int32} : txL ws tp t tx m p (false, a, b, oc, st) = (false, a, b, oc, st) := by
  cases m with
  | zero => rfl
  | succ m => exact if_neg Bool.false_ne_true
/-- the end: whether it is one, begun -/
def txE (ws tp : List Int32) (t : Nat) (T : TS) : Bool × Int32 :=
  if T.1 = true then (if (nxtF ws tp t T.2.1).2.2.1 = Int32.ofInt 0 then (true, nI (nxtF ws tp t T.2.1).1) else (false, nI (nxtF ws tp t T.2.1).1)) else (false, T.2.2.1)
def InT (S : CS) (M : MS) (cd0 : List Int32) (tx : Nat) (a b : Int32) (oc st : List Int32) (h : AH) : Prop := ∃ cd hd hm op tk v, OutR cd0 cd tx oc ∧ hd.length = 200 ∧ h = mk S (mR (pM (xM M a b tk v) cd hd hm op (nI oc.length)) 8 st)
abbrev txQ (S : CS) (M : MS) (t tx : Nat) (T : TS) : AH → Option Value → Prop := fun h w => (∃ a, InT S (mN (mN M 6 (Int32.ofInt 0)) 9 (if (txE (M.2.1 25) (M.2.1 5) t T).1 = true then nI (tx + 1) else nI tx)) (M.2.1 7) tx a (txE (M.2.1 25) (M.2.1 5) t T).2 T.2.2.2.1 (T.2.2.2.2.set (4 * tx + 3) (nI T.2.2.2.1.length)) h) ∧
  w = some (.int (if (txE (M.2.1 25) (M.2.1 5) t T).1 = true then nI tx else Int32.ofInt (-100) - (txE (M.2.1 25) (M.2.1 5) t T).2))
def cNt (i : Nat) : Bool := Nat.beq i 16 || Nat.beq i 35 || Nat.beq i 53 || Nat.beq i 57 || Nat.beq i 68
set_option maxRecDepth 100000 in
set_option maxHeartbeats 4000000 in
theorem tx_last (hM : MLen M) {t tx : Nat} (ht : M.1 6 = nI t) (ht2 : t ≤ 160) (htx : M.1 9 = nI tx) (htx6 : tx < 6) (T : TS) (ha : T.2.1 ≤ t) (hst : T.2.2.2.2.length = 24) {h : AH} (hin : InT S M (M.2.1 7) tx (nI T.2.1) T.2.2.1 T.2.2.2.1 T.2.2.2.2 h) (x : Option Value) :
    WP l (rmD 4 0 0) X sgX8_text kX8_text (txQ S M t tx T) 57 [some (.ref 27), some (.int (bB T.1)), x] [] h 0 0 := by
  obtain ⟨ok, a, b, oc, st⟩ := T
  have hst : st.length = 24 := hst
  have e68 : ∀ (ok2 : Bool) (a2 b2 : Int32) (h : AH), txE (M.2.1 25) (M.2.1 5) t (ok, a, b, oc, st) = (ok2, b2) → InT S M (M.2.1 7) tx a2 b2 oc st h → WP l (rmD 4 0 0) X sgX8_text kX8_text (txQ S M t tx (ok, a, b, oc, st)) 68 [some (.ref 27), some (.int (bB ok2)), x] [] h 0 0 := by
    rintro ok2 a2 b2 h he ⟨cd, hd, hm, op, tk, v, ho, hhd, rfl⟩
    have e : Int32.ofInt 4 * M.1 9 + Int32.ofInt 3 = nI (4 * tx + 3) := by
      rw [htx, show Int32.ofInt 4 * nI tx = nI (4 * tx) from nI_mul 4 tx, show Int32.ofInt 3 = nI 3 from rfl, nI_add]
    refine run_sound okX8_text cNt 300 (Exists.intro _ (And.intro rfl (And.intro (show vp_in (Int32.ofInt 4 * M.1 9 + Int32.ofInt 3) st.length by rw [e, hst]; exact vp_nI (by omega) (by decide)) (And.intro trivial (And.intro (fun q => ?_) (fun q => ?_))))))
    · have hk : ok2 = false := by
        cases ok2 with
        | false => rfl
        | true => exact absurd q (by decide)
      subst hk
      unfold txQ
      rw [he]
      refine ⟨⟨a2, cd, hd, hm, op, tk, v, ho, hhd, ?_⟩, rfl⟩
      show mk S (mR (pM (xM (mN M 6 (Int32.ofInt 0)) a2 b2 tk v) cd hd hm op (nI oc.length)) 8 (st.set (Int32.ofInt 4 * M.1 9 + Int32.ofInt 3).toNatClampNeg (nI oc.length))) = mk S (mR (pM (xM (mN (mN M 6 (Int32.ofInt 0)) 9 (nI tx)) a2 b2 tk v) cd hd hm op (nI oc.length)) 8 (st.set (4 * tx + 3) (nI oc.length)))
      rw [e, nI_clamp (by omega), ← htx]
      rfl
    · have hk : ok2 = true := by
        cases ok2 with
        | false => exact absurd rfl q
        | true => rfl
      subst hk
      refine And.intro rfl (And.intro trivial ?_)
      unfold txQ
      rw [he]
      refine ⟨⟨a2, cd, hd, hm, op, tk, v, ho, hhd, ?_⟩, some_int ?_⟩
      · show mk S (mR (pM (xM (mN (mN M 6 (Int32.ofInt 0)) 9 (M.1 9 + 1)) a2 b2 tk v) cd hd hm op (nI oc.length)) 8 (st.set (Int32.ofInt 4 * M.1 9 + Int32.ofInt 3).toNatClampNeg (nI oc.length))) = mk S (mR (pM (xM (mN (mN M 6 (Int32.ofInt 0)) 9 (nI (tx + 1))) a2 b2 tk v) cd hd hm op (nI oc.length)) 8 (st.set (4 * tx + 3) (nI oc.length)))
        rw [e, nI_clamp (by omega), htx, nI_1]
      · show M.1 9 + 1 - Int32.ofInt 1 = nI tx
        rw [htx]
        exact Int32.add_sub_cancel _ _
  refine run_sound okX8_text cNt 300 (brBB (fun z => ?_) (fun z => ?_))
  · have z : ok = false := z
    subst z
    exact e68 false (nI a) b _ (if_neg Bool.false_ne_true) hin
  · have z : ok = true := z
    subst z
    obtain ⟨cd, hd, hm, op, tk, v, ho, hhd, rfl⟩ := hin
    have hM2 : MLen (mR (pM (xM M (nI a) b tk v) cd hd hm op (nI oc.length)) 8 st) := by
      obtain ⟨a1, a2, a3, a4, a5, a6, a7, a8, a9, a10, a11, a12, a13, a14, a15, a16, a17, a18⟩ := hM
      exact ⟨a1, a2, a3, a4, ho.1, hst, a7, a8, a9, a10, a11, a12, a13, hhd, a15, a16, a17, a18⟩
    refine kH (m_next (M := mR (pM (xM M (nI a) b tk v) cd hd hm op (nI oc.length)) 8 st) hM2 ht ht2 rfl ha) (by decide) (And.intro (fun q => ?_) (fun q => ?_))
    · have q : (nxtF (M.2.1 25) (M.2.1 5) t a).2.2.1 = Int32.ofInt 0 := q
      exact e68 true _ _ _ ((if_pos rfl).trans (if_pos q)) ⟨cd, hd, hm, op, _, _, ho, hhd, rfl⟩
    · have q : ¬ (nxtF (M.2.1 25) (M.2.1 5) t a).2.2.1 = Int32.ofInt 0 := q
      exact e68 false _ _ _ ((if_pos rfl).trans (if_neg q)) ⟨cd, hd, hm, op, _, _, ho, hhd, rfl⟩
set_option maxRecDepth 100000 in
set_option maxHeartbeats 4000000 in
theorem m_text (hM : MLen M) {t tx : Nat} (ht : M.1 6 = nI t) (ht2 : t ≤ 160) (htx : M.1 9 = nI tx) (htx6 : tx < 6) :
    Ctr l 4 X sgX8_text [.ref 27] (mk S M) (txQ S M t tx (txL (M.2.1 25) (M.2.1 5) t tx 3 0 (true, 0, M.1 22, [], M.2.1 8))) := by
  obtain ⟨W, hW⟩ : ∃ W, txL (M.2.1 25) (M.2.1 5) t tx 3 0 (true, 0, M.1 22, [], M.2.1 8) = W := ⟨_, rfl⟩
  rw [hW]
  have h7 : (M.2.1 7).length = 1200 := hM.2.2.2.2.1
  have h8 : (M.2.1 8).length = 24 := hM.2.2.2.2.2.1
  have h26 : (M.2.1 26).length = 200 := hM.2.2.2.2.2.2.2.2.2.2.2.2.2.1
  have key : ∀ p, p ≤ 3 → ∀ (T : TS) (h : AH), T.2.1 ≤ t → T.2.2.2.1.length ≤ T.2.1 → T.2.2.2.2.length = 24 → InT S M (M.2.1 7) tx (nI T.2.1) T.2.2.1 T.2.2.2.1 T.2.2.2.2 h → W = txL (M.2.1 25) (M.2.1 5) t tx (3 - p) p T → WP l (rmD 4 0 0) X sgX8_text kX8_text (txQ S M t tx W) 16 [some (.ref 27), some (.int (bB T.1)), some (.int (nI p))] [] h 0 0 := by
    refine down (fun T h ha hc hst hin he => ?_) (fun p hp ih T h ha hc hst hin he => ?_)
    · obtain ⟨cd, hd, hm, op, tk, v, ho, hhd, rfl⟩ := id hin
      have he : W = T := he
      subst he
      exact run_sound okX8_text cNt 300 (brT (Int32.le_refl _) (tx_last hM ht ht2 htx htx6 _ ha hst hin _))
    · rw [show 3 - p = (3 - (p + 1)) + 1 by omega, txL] at he
      obtain ⟨cd, hd, hm, op, tk, v, ho, hhd, rfl⟩ := id hin
      refine run_sound okX8_text cNt 300 (brF (ge_no (n := 3) rfl hp (by decide)) (brBB (fun z => ?_) (fun z => ?_)))
      · rw [if_neg (by rw [z]; decide)] at he
        subst he
        exact tx_last hM ht ht2 htx htx6 _ ha hst hin _
      · rw [if_pos z] at he
        obtain ⟨ok, a, b, oc, st⟩ := T
        have z : ok = true := z
        subst z
        have ha : a ≤ t := ha
        have hc : oc.length ≤ a := hc
        have hst : st.length = 24 := hst
        have hM2 : ∀ st : List Int32, st.length = 24 → MLen (mR (pM (xM M (nI a) b tk v) cd hd hm op (nI oc.length)) 8 st) := by
          intro st hst
          obtain ⟨a1, a2, a3, a4, a5, a6, a7, a8, a9, a10, a11, a12, a13, a14, a15, a16, a17, a18⟩ := hM
          exact ⟨a1, a2, a3, a4, ho.1, hst, a7, a8, a9, a10, a11, a12, a13, hhd, a15, a16, a17, a18⟩
        have hsp := nxt_spec (M.2.1 25) (M.2.1 5) ha
        have e : Int32.ofInt 4 * M.1 9 + nI p = nI (4 * tx + p) := by
          rw [htx, show Int32.ofInt 4 * nI tx = nI (4 * tx) from nI_mul 4 tx, nI_add]
        have v1 : vp_in (Int32.ofInt 4 * M.1 9 + nI p) st.length := by rw [e, hst]; exact vp_nI (by omega) (by decide)
        have hst2 : (st.set (4 * tx + p) (nI oc.length)).length = 24 := by rw [List.length_set]; exact hst
        -- rows 53 ..: the next part
        have at53 : ∀ (x : Int32) (a2 : Nat) (b2 : Int32) (oc2 : List Int32) (h : AH), a2 ≤ t → oc2.length ≤ a2 → InT S M (M.2.1 7) tx (nI a2) b2 oc2 (st.set (4 * tx + p) (nI oc.length)) h → W = txL (M.2.1 25) (M.2.1 5) t tx (3 - (p + 1)) (p + 1) (false, a2, b2, oc2, st.set (4 * tx + p) (nI oc.length)) → WP l (rmD 4 0 0) X sgX8_text kX8_text (txQ S M t tx W) 53 [some (.ref 27), some (.int x), some (.int (nI p))] [] h 0 0 := by
          intro x a2 b2 oc2 h ha2 hc2 hin2 he2
          have ih := ih (false, a2, b2, oc2, st.set (4 * tx + p) (nI oc.length)) h ha2 hc2 hst2 hin2 he2
          obtain ⟨cd, hd, hm, op, tk, v, ho, hhd, rfl⟩ := hin2
          rw [← nI_1 p] at ih
          exact run_sound okX8_text cNt 300 ih
        have at35 : ∀ o : Bool, hdF (nxtF (M.2.1 25) (M.2.1 5) t a) p = o → WP l (rmD 4 0 0) X sgX8_text kX8_text (txQ S M t tx W) 35 [some (.ref 27), some (.int (bB o)), some (.int (nI p))] [] (mk S (mR (pM (xM M (nI (nxtF (M.2.1 25) (M.2.1 5) t a).2.1) (nI (nxtF (M.2.1 25) (M.2.1 5) t a).1) (nxtF (M.2.1 25) (M.2.1 5) t a).2.2.1 (nxtF (M.2.1 25) (M.2.1 5) t a).2.2.2) cd hd hm op (nI oc.length)) 8 st)) 0 0 := by
          intro o hoo
          have hE := er_spec (M.2.1 25) (M.2.1 5) t (t + 1) true true (nxtF (M.2.1 25) (M.2.1 5) t a).2.1 ([], Int32.ofInt 0, oc) hsp.1 (by simp [ptL]; omega)
          generalize hr : nxtF (M.2.1 25) (M.2.1 5) t a = r at hoo hE hsp he
          obtain ⟨rb, ra, rt, rv⟩ := r
          have hra : ra ≤ t := hsp.1
          have hra2 : a ≤ ra := hsp.2.1
          have e24 : st.set (Int32.ofInt 4 * M.1 9 + nI p).toNatClampNeg (nI oc.length) = st.set (4 * tx + p) (nI oc.length) := by rw [e, nI_clamp (by omega)]
          refine run_sound okX8_text cNt 300 (Exists.intro _ (And.intro rfl (And.intro v1 (brBB (fun z => ?_) (fun z => ?_)))))
          · subst z
            rw [if_neg (by rw [show hdF (rb, ra, rt, rv) p = false from hoo]; decide)] at he
            refine at53 _ ra (nI rb) oc _ hra (by omega) ⟨cd, hd, hm, op, rt, rv, ho, hhd, ?_⟩ (he.trans (txL_no _ _).symm)
            show mk S (mR (pM (xM M (nI ra) (nI rb) rt rv) cd hd hm op (nI oc.length)) 8 (st.set (Int32.ofInt 4 * M.1 9 + nI p).toNatClampNeg (nI oc.length))) = _
            rw [e24]
          · subst z
            rw [if_pos hoo] at he
            have hM3 : MLen (mR (pM (xM M (nI ra) (nI rb) rt rv) cd hd hm op (nI oc.length)) 8 (st.set (Int32.ofInt 4 * M.1 9 + nI p).toNatClampNeg (nI oc.length))) := hM2 _ (by rw [List.length_set]; exact hst)
            have hctr : Ctr l 3 X sgX8_eRead [.ref 27] (mk S (mR (pM (xM M (nI ra) (nI rb) rt rv) cd hd hm op (nI oc.length)) 8 (st.set (Int32.ofInt 4 * M.1 9 + nI p).toNatClampNeg (nI oc.length)))) (erQ S (mR (pM (xM M (nI ra) (nI rb) rt rv) cd hd hm op (nI oc.length)) 8 (st.set (Int32.ofInt 4 * M.1 9 + nI p).toNatClampNeg (nI oc.length))) (M.2.1 7) tx (erF (M.2.1 25) (M.2.1 5) t (t + 1) true true ra ([], Int32.ofInt 0, oc))) := m_eRead hM3 ht ht2 htx htx6 rfl hra rfl (by omega) ho
            have hE : (erF (M.2.1 25) (M.2.1 5) t (t + 1) true true ra ([], Int32.ofInt 0, oc)).2.1.2.1 ≤ t ∧ ptL (erF (M.2.1 25) (M.2.1 5) t (t + 1) true true ra ([], Int32.ofInt 0, oc)).2.2 ≤ (erF (M.2.1 25) (M.2.1 5) t (t + 1) true true ra ([], Int32.ofInt 0, oc)).2.1.2.1 := hE
            have he : W = txL (M.2.1 25) (M.2.1 5) t tx (3 - (p + 1)) (p + 1) ((erF (M.2.1 25) (M.2.1 5) t (t + 1) true true ra ([], Int32.ofInt 0, oc)).1, (erF (M.2.1 25) (M.2.1 5) t (t + 1) true true ra ([], Int32.ofInt 0, oc)).2.1.2.1, nI (erF (M.2.1 25) (M.2.1 5) t (t + 1) true true ra ([], Int32.ofInt 0, oc)).2.1.1, (erF (M.2.1 25) (M.2.1 5) t (t + 1) true true ra ([], Int32.ofInt 0, oc)).2.2.2.2, st.set (4 * tx + p) (nI oc.length)) := he
            generalize erF (M.2.1 25) (M.2.1 5) t (t + 1) true true ra ([], Int32.ofInt 0, oc) = E at hctr hE he
            obtain ⟨eo, ⟨eb, ea, et, ev⟩, eh, eop, eoc⟩ := E
            have hea : ea ≤ t := hE.1
            have hec : eh.length + eoc.length ≤ ea := hE.2
            refine ⟨3, _, by decide, hctr, ?_⟩
            rintro hp' w ⟨⟨cd', hd', ho', hs', rfl⟩, rfl⟩
            have hin3 : InT S M (M.2.1 7) tx (nI ea) (nI eb) eoc (st.set (4 * tx + p) (nI oc.length)) (mk S (pM (xM (mR (pM (xM M (nI ra) (nI rb) rt rv) cd hd hm op (nI oc.length)) 8 (st.set (Int32.ofInt 4 * M.1 9 + nI p).toNatClampNeg (nI oc.length))) (nI ea) (nI eb) et ev) cd' hd' (nI eh.length) eop (nI eoc.length))) := by
              refine ⟨cd', hd', nI eh.length, eop, et, ev, ho', hs'.1, ?_⟩
              show mk S (mR (pM (xM M (nI ea) (nI eb) et ev) cd' hd' (nI eh.length) eop (nI eoc.length)) 8 (st.set (Int32.ofInt 4 * M.1 9 + nI p).toNatClampNeg (nI oc.length))) = _
              rw [e24]
            refine brBB (fun z => ?_) (fun z => ?_)
            · have z : eo = false := z
              subst z
              exact at53 _ ea (nI eb) eoc _ hea (by omega) hin3 he
            · have z : eo = true := z
              subst z
              have ih := ih (true, ea, nI eb, eoc, st.set (4 * tx + p) (nI oc.length)) _ hea (by show eoc.length ≤ ea; omega) hst2 hin3 he
              rw [← nI_1 p] at ih
              exact ih
        refine kH (m_next (M := mR (pM (xM M (nI a) b tk v) cd hd hm op (nI oc.length)) 8 st) (hM2 st hst) ht ht2 rfl ha) (by decide) (And.intro (fun q => And.intro (fun q2 => ?_) (fun q2 => ?_)) (fun q => ?_))
        · exact at35 true ((if_pos q).trans (if_pos q2))
        · exact at35 false ((if_pos q).trans (if_neg q2))
        · exact at35 false (if_neg q)
  have h0 := key 0 (Nat.zero_le _) (true, 0, M.1 22, [], M.2.1 8) (mk S (mN (mN M 21 (Int32.ofInt 0)) 29 (Int32.ofInt 0))) (Nat.zero_le _) (Nat.zero_le _) h8 ⟨M.2.1 7, M.2.1 26, M.1 27, M.1 28, M.1 23, M.1 24, ⟨h7, fun _ _ => rfl, rfl⟩, h26, rfl⟩ hW.symm
  refine Ctr.of okX8_text rfl (Nat.le_of_ble_eq_true rfl) (run_sound okX8_text cNt 300 (And.intro (fun q => ?_) (fun q => And.intro trivial (And.intro trivial h0))))
  have q : M.1 9 = nI 6 := q
  rw [htx] at q
  have := (nI_eq (by omega) (by decide)).mp q
  omega
end TEXT
