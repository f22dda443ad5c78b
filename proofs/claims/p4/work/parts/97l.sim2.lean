/-! THE READERS ALIKE: rule by rule, all of them -/
section SIMS
variable {tp tq : List Int32} {t n : Nat}
section STE
variable {br wa : Bool} {tk v s : Int32} {P : PT}
theorem stE_1 (h : tk = 1) : stE true br tk v P = .inr (false, br, unwF (Int32.ofInt 7) P.1 P.2.1 (P.2.2 ++ [Int32.ofInt 100000 + v])) := by subst h; rfl
theorem stE_2 (h : tk = 2) : stE true br tk v P = .inr (false, br, unwF (Int32.ofInt 7) P.1 P.2.1 (P.2.2 ++ [v])) := by subst h; rfl
theorem stE_6 (h : tk = 6) : stE true true tk v P = onS true true (Int32.ofInt 13) P := by subst h; rfl
theorem stE_45 (h : tk = 45) : stE true br tk v P = onS true false (Int32.ofInt 19) P := by subst h; rfl
theorem stE_40 (h : tk = 40) : stE true br tk v P = onS true true (Int32.ofInt 0) P := by subst h; rfl
theorem stE_bad (h1 : ¬ tk = 1) (h2 : ¬ tk = 2) (h45 : ¬ tk = 45) (h40 : ¬ tk = 40) (h6 : tk = 6 → br = false) : stE true br tk v P = .inl (false, P) := by
  have e : stW br tk P = .inl (false, P) := by
    unfold stW
    rw [if_neg (show ¬ tk = Int32.ofInt 45 from h45), if_neg (show ¬ tk = Int32.ofInt 40 from h40)]
  unfold stE
  rw [if_pos rfl, if_neg (show ¬ tk = Int32.ofInt 1 from h1), if_neg (show ¬ tk = Int32.ofInt 2 from h2), e]
  by_cases q : tk = Int32.ofInt 6
  · rw [if_pos q, if_neg (by rw [h6 q]; decide)]
  · rw [if_neg q]
theorem stE_59 (h : tk = 59) : stE false br tk v P = .inl ((unwF (Int32.ofInt 1) P.1 P.2.1 P.2.2).1.isEmpty, unwF (Int32.ofInt 1) P.1 P.2.1 P.2.2) := by subst h; rfl
theorem stE_41 (h : tk = 41) : stE false br tk v P = clS2 br (unwF (Int32.ofInt 1) P.1 P.2.1 P.2.2) := by subst h; rfl
theorem stE_no (h59 : ¬ tk = 59) (h41 : ¬ tk = 41) (h : sgF tk = Int32.ofInt (-1)) : stE false br tk v P = .inl (false, P) := by
  unfold stE
  rw [if_neg Bool.false_ne_true, if_neg (show ¬ tk = Int32.ofInt 59 from h59), if_neg (show ¬ tk = Int32.ofInt 41 from h41), if_pos h]
theorem stE_op (h : ¬ sgF tk = Int32.ofInt (-1)) : stE false br tk v P = btS (sgF tk) P := by
  unfold stE
  rw [if_neg Bool.false_ne_true, if_neg (show ¬ tk = Int32.ofInt 59 from fun z => h (by rw [z]; decide)), if_neg (show ¬ tk = Int32.ofInt 41 from fun z => h (by rw [z]; decide)), if_neg h]
theorem onS_5 (h : P.2.1 = 5) : onS wa br s P = .inl (false, P) := by
  have e : onF s P = (false, P) := if_pos h
  unfold onS
  rw [e, if_neg Bool.false_ne_true]
theorem onS_n (h : ¬ P.2.1 = 5) : onS wa br s P = .inr (wa, br, (s :: P.1, P.2.1 + 1, P.2.2)) := by
  have e : onF s P = (true, (s :: P.1, P.2.1 + 1, P.2.2)) := if_neg h
  unfold onS
  rw [e, if_pos rfl]
theorem btS_n4 {hs : List Int32} {op : Int32} {oc : List Int32} (h : ¬ rkF s = Int32.ofInt 4) (e : unwF (rkF s) P.1 P.2.1 P.2.2 = (hs, op, oc)) : btS s P = .inr (true, lt12 s, (s :: hs, op, oc)) := by
  have e2 : btF s P = (true, (s :: hs, op, oc)) := by
    unfold btF stF
    rw [if_neg h, if_neg h, e]
  unfold btS
  rw [e2, if_pos rfl]
theorem btS_4 {hs : List Int32} {op : Int32} {oc : List Int32} (h : rkF s = Int32.ofInt 4) (e : unwF (Int32.ofInt 5) P.1 P.2.1 P.2.2 = (hs, op, oc)) (h4 : tp4 hs = false) : btS s P = .inr (true, lt12 s, (s :: hs, op, oc)) := by
  have e2 : btF s P = (true, (s :: hs, op, oc)) := by
    unfold btF stF
    rw [if_pos h, if_pos h, e, if_neg (by rw [h4]; decide)]
  unfold btS
  rw [e2, if_pos rfl]
theorem btS_4n (h : rkF s = Int32.ofInt 4) (h4 : tp4 (unwF (Int32.ofInt 5) P.1 P.2.1 P.2.2).1 = true) : ∃ Q, btS s P = .inl (false, Q) := by
  have e2 : btF s P = (false, unwF (Int32.ofInt 5) P.1 P.2.1 P.2.2) := by
    unfold btF stF
    rw [if_pos h, if_pos h, if_pos h4]
  unfold btS
  rw [e2, if_neg Bool.false_ne_true]
  exact ⟨_, rfl⟩
end STE
theorem tp4_no {hs : List Int32} (h : TopLt (Int32.ofInt 4) hs) : tp4 hs = false := by
  cases hs with
  | nil => rfl
  | cons s q =>
    have h1 := h s q rfl
    show (if rkF s = Int32.ofInt 4 then true else false) = false
    rw [if_neg (fun z => by rw [z] at h1; exact absurd h1 (by decide))]
theorem opk_all (x : Int32) : opk x = Int32.ofInt 0 ∨ opk x = Int32.ofInt 1 ∨ opk x = Int32.ofInt 2 ∨ opk x = Int32.ofInt 4 ∨ opk x = Int32.ofInt 5 ∨ opk x = Int32.ofInt 6 := by
  unfold opk
  by_cases h1 : x = 7
  · rw [if_pos h1]; exact Or.inr (Or.inl rfl)
  by_cases h2 : x = 8
  · rw [if_neg h1, if_pos h2]; exact Or.inr (Or.inr (Or.inl rfl))
  by_cases h3 : x = 60
  · rw [if_neg h1, if_neg h2, if_pos h3]; exact Or.inr (Or.inr (Or.inr (Or.inl rfl)))
  by_cases h4 : x = 61
  · rw [if_neg h1, if_neg h2, if_neg h3, if_pos h4]; exact Or.inr (Or.inr (Or.inr (Or.inl rfl)))
  by_cases h5 : x = 43
  · rw [if_neg h1, if_neg h2, if_neg h3, if_neg h4, if_pos h5]; exact Or.inr (Or.inr (Or.inr (Or.inr (Or.inl rfl))))
  by_cases h6 : x = 45
  · rw [if_neg h1, if_neg h2, if_neg h3, if_neg h4, if_neg h5, if_pos h6]; exact Or.inr (Or.inr (Or.inr (Or.inr (Or.inl rfl))))
  by_cases h7 : x = 42
  · rw [if_neg h1, if_neg h2, if_neg h3, if_neg h4, if_neg h5, if_neg h6, if_pos h7]; exact Or.inr (Or.inr (Or.inr (Or.inr (Or.inr rfl))))
  rw [if_neg h1, if_neg h2, if_neg h3, if_neg h4, if_neg h5, if_neg h6, if_neg h7]
  exact Or.inl rfl
theorem opk_sgn {x : Int32} (h : ¬ opk x = Int32.ofInt 0) : x = 7 ∨ x = 8 ∨ x = 60 ∨ x = 61 ∨ x = 43 ∨ x = 45 ∨ x = 42 := by
  by_cases h1 : x = 7
  · exact Or.inl h1
  by_cases h2 : x = 8
  · exact Or.inr (Or.inl h2)
  by_cases h3 : x = 60
  · exact Or.inr (Or.inr (Or.inl h3))
  by_cases h4 : x = 61
  · exact Or.inr (Or.inr (Or.inr (Or.inl h4)))
  by_cases h5 : x = 43
  · exact Or.inr (Or.inr (Or.inr (Or.inr (Or.inl h5))))
  by_cases h6 : x = 45
  · exact Or.inr (Or.inr (Or.inr (Or.inr (Or.inr (Or.inl h6)))))
  by_cases h7 : x = 42
  · exact Or.inr (Or.inr (Or.inr (Or.inr (Or.inr (Or.inr h7)))))
  refine absurd ?_ h
  unfold opk
  rw [if_neg h1, if_neg h2, if_neg h3, if_neg h4, if_neg h5, if_neg h6, if_neg h7]
theorem sgn_op {x : Int32} (h : ¬ opk x = Int32.ofInt 0) : rkF (sgn x) = opk x ∧ gm (x, 0) = sgn x ∧ ¬ sgn x = Int32.ofInt (-1) ∧ ¬ x = 0 ∧ ¬ sgn x = Int32.ofInt 13 ∧ ¬ sgn x = Int32.ofInt 19 ∧ lt12 (sgn x) = decide (opk x ≤ Int32.ofInt 2) := by
  rcases opk_sgn h with rfl | rfl | rfl | rfl | rfl | rfl | rfl <;> decide
theorem sgn_no {x : Int32} (h : opk x = Int32.ofInt 0) : sgn x = Int32.ofInt (-1) := by
  unfold opk at h
  unfold sgn
  by_cases h1 : x = 7
  · subst h1; revert h; decide
  by_cases h2 : x = 8
  · subst h2; revert h; decide
  by_cases h3 : x = 60
  · subst h3; revert h; decide
  by_cases h4 : x = 61
  · subst h4; revert h; decide
  by_cases h5 : x = 43
  · subst h5; revert h; decide
  by_cases h6 : x = 45
  · subst h6; revert h; decide
  by_cases h7 : x = 42
  · subst h7; revert h; decide
  rw [if_neg h1, if_neg h2, if_neg h3, if_neg h4, if_neg h5, if_neg h6, if_neg h7]
/-- a sign comes off -/
theorem unw_pop {r o op : Int32} {hs oc : List Int32} (h : ¬ rkF o < r) (h13 : ¬ o = Int32.ofInt 13) (h19 : ¬ o = Int32.ofInt 19) : unwF r (o :: hs) op oc = unwF r hs op (oc ++ [o]) := by
  rw [unwF, if_neg h, if_neg h13, if_neg h19]
  rw [show op - Int32.ofInt 0 = op from by rw [show Int32.ofInt 0 = (0 : Int32) from rfl]; exact Int32.sub_zero op]
theorem unw_19 {op : Int32} {hs oc : List Int32} : unwF (Int32.ofInt 7) (Int32.ofInt 19 :: hs) (op + 1) oc = unwF (Int32.ofInt 7) hs op (oc ++ [Int32.ofInt 19]) := by
  rw [unwF, if_neg (by decide), if_neg (by decide), if_pos rfl]
  rw [show op + 1 - Int32.ofInt 1 = op from Int32.add_sub_cancel op 1]
theorem unw_13 {op : Int32} {hs oc : List Int32} : unwF (Int32.ofInt 3) (Int32.ofInt 13 :: hs) (op + 1) oc = unwF (Int32.ofInt 3) hs op (oc ++ [Int32.ofInt 13]) := by
  rw [unwF, if_neg (by decide), if_pos rfl]
  rw [show op + 1 - Int32.ofInt 1 = op from Int32.add_sub_cancel op 1]
theorem op_full {op : Int32} (h : op = nI (5 - 0)) : op = 5 := h
theorem op_more {op : Int32} {n' : Nat} (hn : n' + 1 ≤ 5) (h : op = nI (5 - (n' + 1))) : ¬ op = 5 ∧ op + 1 = nI (5 - n') := by
  subst h
  constructor
  · intro z
    have := nI_inj (b := 5) (by omega) (by decide) z
    omega
  · rw [nI_1]
    congr 1
    omega
/-- ones -/
theorem one_sim (hx : Lex tp tq t) {prev : Option (GF × GF)} (hn : n ≤ 5) (h0 : prev = none → n = 0) (h1 : ∀ f, prev = some f → ∃ n', n = n' + 1 ∧ Sim tp tq t (Int32.ofInt 1) (Int32.ofInt 1) n' f.1 ∧ SimO tp tq t n' f.2) : SimO tp tq t n (oneP prev tp t) := by
  rintro ⟨k, cd⟩ a m br hs op oc ⟨hp, ha, hl, hm⟩ hop hbr
  have hl : cd.length ≤ a := hl
  have hp : k = lexF tp t a := hp
  have h160 := hx.2
  obtain ⟨m1, rfl, eS⟩ := eR_step (tq := tq) hm true br (hs, op, oc)
  obtain ⟨hT, b1, b2, b3, b4⟩ := tok hx ha
  rw [← hp] at hT b1 b2 b3 b4
  have hv := nxt_val WS tq (t := t) (a := a) (by omega)
  generalize nxtF WS tq t a = r at eS hT b1 b2 hv
  obtain ⟨n1, n2, n6, n45, n40, -⟩ := hT.num
  by_cases q : k.2.2.1 = 2 ∨ k.2.2.1 = 3
  · have b5 : a < k.2.1 := b4 (by rcases q with q | q <;> rw [q] <;> decide)
    have ev : oneP prev tp t (k, cd) = (true, advP tp t (addP k.2.2.1 k.2.2.2 (k, cd))) := if_pos q
    rw [ev, if_pos rfl]
    have hw := hT.val q
    rw [hw] at hv
    refine ⟨k.2.1, m1, br, [(k.2.2.1, k.2.2.2)], ⟨b5, b3, by rw [addP_lt (by show cd.length < 160; omega)]; rfl, by show 1 ≤ _; omega, by omega, Vd.one ?_⟩, ?_⟩
    · rcases q with q | q
      · exact Or.inl ⟨q, hv.1 (n1.mpr q)⟩
      · exact Or.inr (Or.inl ⟨q, hv.2 (n2.mpr q)⟩)
    rw [eS]
    rcases q with q | q
    · rw [stE_1 (n1.mpr q)]
      show eR tq t m1 false br r.2.1 _ = _
      rw [b2, hw, q]
      rfl
    · rw [stE_2 (n2.mpr q)]
      show eR tq t m1 false br r.2.1 _ = _
      rw [b2, hw, q]
      rfl
  by_cases q2 : k.2.2.1 = 45 ∨ k.2.2.1 = 40
  · have b5 : a < k.2.1 := b4 (by rcases q2 with q | q <;> rw [q] <;> decide)
    have ev : oneP prev tp t (k, cd) = oneM prev tp t (k, cd) := (if_neg q).trans (if_pos q2)
    rw [ev]
    cases prev with
    | none =>
      have en := h0 rfl
      subst en
      have e5 := op_full hop
      rw [show oneM none tp t (k, cd) = (false, (k, cd)) from rfl, if_neg Bool.false_ne_true]
      unfold Bad
      rw [eS]
      rcases q2 with q2 | q2
      · rw [stE_45 (n45.mpr q2), onS_5 (P := (hs, op, oc)) e5]
        exact ⟨rfl, b1⟩
      · rw [stE_40 (n40.mpr q2), onS_5 (P := (hs, op, oc)) e5]
        exact ⟨rfl, b1⟩
    | some f =>
      obtain ⟨n', rfl, s1, s7⟩ := h1 f rfl
      obtain ⟨e5, e6⟩ := op_more hn hop
      by_cases q3 : k.2.2.1 = 40
      · have ev2 : oneM (some f) tp t (k, cd) = bktP f.1 tp t (advP tp t (k, cd)) := if_pos q3
        rw [ev2]
        have eS : eR tq t (m1 + 1) true br a (hs, op, oc) = eR tq t m1 true true k.2.1 (Int32.ofInt 0 :: hs, op + 1, oc) := by
          rw [eS, stE_40 (n40.mpr q3), onS_n (P := (hs, op, oc)) e5]
          show eR tq t m1 true true r.2.1 _ = _
          rw [b2]
        have hI := s1 (advP tp t (k, cd)) k.2.1 m1 true (Int32.ofInt 0 :: hs) (op + 1) oc ⟨rfl, b3, by show cd.length ≤ _; omega, by omega⟩ (TopLt.cons (by decide)) e6 (by rw [if_pos (by decide)])
        unfold bktP
        by_cases y : (f.1 (advP tp t (k, cd))).1 = true
        · rw [if_pos y] at hI ⊢
          obtain ⟨a', m', br', P', c, ⟨v1, v2, v3, v4, v5, v6⟩, he, hu, hex⟩ := hI
          rw [unw_top (TopLt.cons (by decide))] at hu
          obtain ⟨m2, rfl, eS2⟩ := eR_step (tq := tq) v5 false br' P'
          obtain ⟨hT2, c1, c2, c3, c4⟩ := tok hx v2
          rw [v3] at hex ⊢
          have hex : Ex (Int32.ofInt 1) (lexF tp t a').2.2.1 P' := hex
          generalize hk2 : lexF tp t a' = k2 at hT2 c1 c2 c3 c4 hex
          generalize nxtF WS tq t a' = r2 at eS2 hT2 c1 c2
          by_cases z : k2.2.2.1 = 41
          · rw [if_pos (show srt (k2, cd ++ c) = 41 from z), if_pos rfl]
            have c5 : a' < k2.2.1 := c4 (by rw [z]; decide)
            refine ⟨k2.2.1, m2, br', c, ⟨by omega, c3, rfl, by omega, by omega, v6⟩, ?_⟩
            rw [eS, he, eS2, stE_41 (hT2.num.2.2.2.2.2.2.1.mpr z), hu]
            show eR tq t m2 false br' r2.2.1 (unwF (Int32.ofInt 7) hs (op + 1 - Int32.ofInt 1) (oc ++ c.map gm)) = _
            rw [c2, show op + 1 - Int32.ofInt 1 = op from Int32.add_sub_cancel op 1]
          · rw [if_neg (show ¬ srt (k2, cd ++ c) = 41 from z), if_neg Bool.false_ne_true]
            unfold Bad
            rw [eS, he, eS2]
            by_cases z2 : k2.2.2.1 = 59
            · rw [stE_59 (hT2.num.2.2.2.2.2.1.mpr z2), hu]
              exact ⟨rfl, c1⟩
            · by_cases z3 : opk k2.2.2.1 = Int32.ofInt 0
              · rw [stE_no (fun y => z2 (hT2.num.2.2.2.2.2.1.mp y)) (fun y => z (hT2.num.2.2.2.2.2.2.1.mp y)) (hT2.sg.trans (sgn_no z3))]
                exact ⟨rfl, c1⟩
              · have so := sgn_op z3
                rcases hex with hex | ⟨hex, -, h4⟩
                · rcases opk_all k2.2.2.1 with o | o | o | o | o | o
                  · exact absurd o z3
                  all_goals (rw [o] at hex; exact absurd hex (by decide))
                · rw [stE_op (by rw [hT2.sg]; exact so.2.2.1), hT2.sg]
                  obtain ⟨Q, hQ⟩ := btS_4n (so.1.trans hex) h4
                  rw [hQ]
                  exact ⟨rfl, c1⟩
        · rw [if_neg y] at hI ⊢
          rw [if_neg Bool.false_ne_true]
          unfold Bad
          rw [eS]
          exact hI
      · have q45 : k.2.2.1 = 45 := q2.resolve_right q3
        have ev2 : oneM (some f) tp t (k, cd) = if (f.2 (advP tp t (k, cd))).1 = true then (true, addP 10 0 (f.2 (advP tp t (k, cd))).2) else (false, (f.2 (advP tp t (k, cd))).2) := if_neg q3
        rw [ev2]
        have eS : eR tq t (m1 + 1) true br a (hs, op, oc) = eR tq t m1 true false k.2.1 (Int32.ofInt 19 :: hs, op + 1, oc) := by
          rw [eS, stE_45 (n45.mpr q45), onS_n (P := (hs, op, oc)) e5]
          show eR tq t m1 true false r.2.1 _ = _
          rw [b2]
        have hI := s7 (advP tp t (k, cd)) k.2.1 m1 false (Int32.ofInt 19 :: hs) (op + 1) oc ⟨rfl, b3, by show cd.length ≤ _; omega, by omega⟩ e6 (fun _ => rfl)
        by_cases y : (f.2 (advP tp t (k, cd))).1 = true
        · rw [if_pos y] at hI ⊢
          rw [if_pos rfl]
          obtain ⟨a', m', br', c, ⟨v1, v2, v3, v4, v5, v6⟩, he⟩ := hI
          have hlc : (cd ++ c).length < 160 := by rw [List.length_append]; omega
          refine ⟨a', m', br', c ++ [(10, 0)], ⟨by omega, v2, ?_, by rw [List.length_append]; show c.length + 1 ≤ _; omega, v5, v6.app (Vd.one (Or.inr (Or.inr (Or.inr (Or.inl rfl)))))⟩, ?_⟩
          · rw [v3]
            show addP 10 0 (lexF tp t a', cd ++ c) = _
            rw [addP_lt hlc, List.append_assoc]
          · rw [eS, he, unw_19, List.map_append, ← List.append_assoc]
            rfl
        · rw [if_neg y] at hI ⊢
          rw [if_neg Bool.false_ne_true]
          unfold Bad
          rw [eS]
          exact hI
  · have ev : oneP prev tp t (k, cd) = (false, (k, cd)) := (if_neg q).trans (if_neg q2)
    rw [ev, if_neg Bool.false_ne_true]
    unfold Bad
    rw [eS, stE_bad (fun z => q (Or.inl (n1.mp z))) (fun z => q (Or.inr (n2.mp z))) (fun z => q2 (Or.inl (n45.mp z))) (fun z => q2 (Or.inr (n40.mp z))) (fun z => hbr (n6.mp z))]
    exact ⟨rfl, b1⟩
end SIMS
