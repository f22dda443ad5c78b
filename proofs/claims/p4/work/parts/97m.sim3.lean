/-! THE READERS ALIKE: loops, comparisons, nots, all depths -/
section SIMT
variable {tp tq : List Int32} {t n : Nat}
theorem one_7 {f : GF} (h : SimO tp tq t n f) : Sim tp tq t (Int32.ofInt 7) (Int32.ofInt 7) n f := by
  intro p a m br hs op oc hat htop hop hbr
  rw [if_neg (by decide)] at hbr
  have h1 := h p a m br hs op oc hat hop hbr
  by_cases y : (f p).1 = true
  · rw [if_pos y] at h1 ⊢
    obtain ⟨a', m', br', c, hw, he⟩ := h1
    refine ⟨a', m', br', _, c, hw, he, ?_, Or.inl ?_⟩
    · exact unw_unw (Int32.le_refl _) _ _ _
    · rcases opk_all (srt (f p).2) with o | o | o | o | o | o <;> rw [o] <;> decide
  · rw [if_neg y] at h1 ⊢
    exact h1
theorem loop_sim (hx : Lex tp tq t) {r r1 r2 : Int32} {sub : GF} {ops : Int32 → Bool} (hlt : r < r1) (hr2 : r1 ≤ r2) (hops : ∀ x, ops x = true ↔ opk x = r) (hr0 : ¬ r = Int32.ofInt 0) (hr4 : ¬ r = Int32.ofInt 4)
    (hb : (r1 ≤ Int32.ofInt 3 ∧ r ≤ Int32.ofInt 2 ∧ r ≤ Int32.ofInt 4) ∨ (¬ r1 ≤ Int32.ofInt 3 ∧ ¬ r ≤ Int32.ofInt 2 ∧ ¬ r1 ≤ Int32.ofInt 4)) (hrr : ∀ x, opk x < r1 → ¬ opk x = r → opk x < r) (hsub : Sim tp tq t r1 r2 n sub)
    {p : PS} {a m : Nat} {br : Bool} {hs : List Int32} {op : Int32} {oc : List Int32} (hl : p.2.length ≤ a) (htop : TopLt r hs) (hop : op = nI (5 - n)) :
    ∀ (j : Nat) (q : PS) (a' m' : Nat) (br' : Bool) (P' : PT) (c : List (Int32 × Int32)), Went tp t p a q a' m' c → eR tq t m true br a (hs, op, oc) = eR tq t m' false br' a' P' → unwF r P'.1 P'.2.1 P'.2.2 = (hs, op, oc ++ c.map gm) → Ex r1 (srt q) P' → t - a' < j →
      if (loopP sub tp t ops j q).1 = true then Good tp tq t r p a m br hs op oc (loopP sub tp t ops j q).2 else Bad tq t a m br (hs, op, oc) (loopP sub tp t ops j q).2 := by
  intro j
  have h160 := hx.2
  induction j with
  | zero => intro q a' m' br' P' c _ _ _ _ hj; omega
  | succ j ih =>
    rintro q a' m' br' P' c ⟨w1, w2, rfl, w4, w5, w6⟩ he hu hex hj
    obtain ⟨hT, b1, b2, b3, b4⟩ := tok hx w2
    obtain ⟨m1, rfl, eS⟩ := eR_step (tq := tq) w5 false br' P'
    have hex : Ex r1 (lexF tp t a').2.2.1 P' := hex
    rw [loopP]
    show if (if ops (lexF tp t a').2.2.1 = true then _ else _ : Bool × PS).1 = true then _ else _
    by_cases z : ops (lexF tp t a').2.2.1 = true
    · rw [if_pos z]
      have hk := (hops _).mp z
      obtain ⟨k1, k2, k3, k4, k5, k6, k7⟩ := sgn_op (x := (lexF tp t a').2.2.1) (by rw [hk]; exact hr0)
      rw [hk] at k1 k7
      have hop0 : ¬ opk (lexF tp t a').2.2.1 = Int32.ofInt 0 := by rw [hk]; first | exact hr0 | decide
      have hsg := hT.sg
      have b5 := b4 k4
      have hsx : srt (lexF tp t a', p.2 ++ c) = (lexF tp t a').2.2.1 := rfl
      have eadv : advP tp t (lexF tp t a', p.2 ++ c) = (lexF tp t (lexF tp t a').2.1, p.2 ++ c) := rfl
      rw [hsx, eadv]
      have ho : ∃ o, o = sgn (lexF tp t a').2.2.1 := ⟨_, rfl⟩
      obtain ⟨o, ho⟩ := ho
      rw [← ho] at k1 k2 k3 k5 k6 k7 hsg
      have hst : stE false br' (nxtF WS tq t a').2.2.1 (nxtF WS tq t a').2.2.2 P' = .inr (true, lt12 o, (o :: hs, op, oc ++ c.map gm)) := by
        rw [stE_op (by rw [hsg]; exact k3), hsg]
        exact btS_n4 (by rw [k1]; exact hr4) (by rw [k1]; exact hu)
      have e2 : eR tq t m true br a (hs, op, oc) = eR tq t m1 true (lt12 o) (lexF tp t a').2.1 (o :: hs, op, oc ++ c.map gm) := by
        rw [he, eS, hst]
        show eR tq t m1 true (lt12 o) (nxtF WS tq t a').2.1 _ = _
        rw [b2]
      generalize hx0 : (lexF tp t a').2.2.1 = x at *
      generalize ha1 : (lexF tp t a').2.1 = a1 at *
      have hs2 := hsub (lexF tp t a1, p.2 ++ c) a1 m1 (lt12 o) (o :: hs) op (oc ++ c.map gm) ⟨rfl, b3, by show (p.2 ++ c).length ≤ _; rw [List.length_append]; omega, by omega⟩ (TopLt.cons (by rw [k1]; exact Int32.lt_of_lt_of_le hlt hr2)) hop (by
        rcases hb with ⟨h1, h2, -⟩ | ⟨h1, h2, -⟩
        · rw [if_pos h1, k7]; exact decide_eq_true h2
        · rw [if_neg h1, k7]; exact fun _ => decide_eq_false h2)
      by_cases y : (sub (lexF tp t a1, p.2 ++ c)).1 = true
      · rw [if_pos y] at hs2 ⊢
        obtain ⟨a3, m3, br3, P3, c3, ⟨v1, v2, v3, v4, v5, v6⟩, e3, u3, x3⟩ := hs2
        rw [v3] at x3 ⊢
        have x3 : Ex r1 (lexF tp t a3).2.2.1 P3 := x3
        have hl3 : (p.2 ++ c ++ c3).length < 160 := by rw [List.length_append, List.length_append]; omega
        have ead : addP x 0 (lexF tp t a3, p.2 ++ c ++ c3) = (lexF tp t a3, p.2 ++ (c ++ c3 ++ [(x, 0)])) := by
          rw [addP_lt hl3]
          simp only [List.append_assoc]
        rw [show addP x 0 (lexF tp t a3, (lexF tp t a1, p.2 ++ c).2 ++ c3) = (lexF tp t a3, p.2 ++ (c ++ c3 ++ [(x, 0)])) from ead]
        rw [unw_top (TopLt.cons (by rw [k1]; exact hlt))] at u3
        refine ih _ a3 m3 br3 P3 (c ++ c3 ++ [(x, 0)]) ⟨by omega, v2, rfl, ?_, v5, (w6.app v6).app (Vd.one (Or.inr (Or.inr (Or.inr (Or.inr hop0)))))⟩ (e2.trans e3) ?_ x3 (by omega)
        · rw [List.length_append, List.length_append]
          show c.length + c3.length + 1 ≤ _
          omega
        · rw [unw_via (Int32.le_of_lt hlt) u3, unw_pop (by rw [k1]; exact Int32.lt_irrefl) k5 k6, unw_top htop, List.map_append, List.map_append]
          show (hs, op, _) = (hs, op, oc ++ (c.map gm ++ c3.map gm ++ [gm (x, 0)]))
          rw [k2]
          simp only [List.append_assoc]
      · rw [if_neg y] at hs2 ⊢
        rw [if_neg Bool.false_ne_true]
        unfold Bad
        rw [e2]
        exact hs2
    · rw [if_neg z, if_pos rfl]
      refine ⟨a', m1 + 1, br', P', c, ⟨w1, w2, rfl, w4, w5, w6⟩, he, ?_, ?_⟩
      · rw [hu, unw_top htop]
      · rcases hex with hex | ⟨h1, h2, h3⟩
        · exact Or.inl (hrr _ hex (fun y => z ((hops _).mpr y)))
        · refine Or.inr ⟨h1, ?_, h3⟩
          rcases hb with ⟨-, -, q⟩ | ⟨-, -, q⟩
          · exact q
          · exact absurd h2 q
theorem bin_sim (hx : Lex tp tq t) {r r1 r2 : Int32} {sub : GF} {ops : Int32 → Bool} (hlt : r < r1) (hr2 : r1 ≤ r2) (hops : ∀ x, ops x = true ↔ opk x = r) (hr0 : ¬ r = Int32.ofInt 0) (hr4 : ¬ r = Int32.ofInt 4)
    (hb : (r1 ≤ Int32.ofInt 3 ∧ r ≤ Int32.ofInt 2 ∧ r ≤ Int32.ofInt 4) ∨ (¬ r1 ≤ Int32.ofInt 3 ∧ ¬ r ≤ Int32.ofInt 2 ∧ ¬ r1 ≤ Int32.ofInt 4)) (hb2 : r ≤ Int32.ofInt 3 ↔ r1 ≤ Int32.ofInt 3) (hrr : ∀ x, opk x < r1 → ¬ opk x = r → opk x < r) (hsub : Sim tp tq t r1 r2 n sub) : Sim tp tq t r r n (binP sub tp t ops) := by
  intro p a m br hs op oc hat htop hop hbr
  have h160 := hx.2
  have ht1 : TopLt r1 hs := htop.mono (Int32.le_of_lt hlt)
  have h1 := hsub p a m br hs op oc hat (ht1.mono hr2) hop (by
    by_cases z : r ≤ Int32.ofInt 3
    · rw [if_pos (hb2.mp z)]; rw [if_pos z] at hbr; exact hbr
    · rw [if_neg (fun y => z (hb2.mpr y))]; rw [if_neg z] at hbr; exact hbr)
  unfold binP
  by_cases y : (sub p).1 = true
  · rw [if_pos y] at h1
    have e : (if (sub p).1 = true then loopP sub tp t ops 160 (sub p).2 else (false, (sub p).2)) = loopP sub tp t ops 160 (sub p).2 := if_pos y
    rw [e]
    obtain ⟨a', m', br', P', c, hw, he, hu, hex⟩ := h1
    rw [unw_top ht1] at hu
    refine loop_sim hx hlt hr2 hops hr0 hr4 hb hrr hsub hat.2.2.1 htop hop 160 _ a' m' br' P' c hw he ?_ hex (by have := hw.1; omega)
    rw [unw_via (Int32.le_of_lt hlt) hu, unw_top htop]
  · rw [if_neg y] at h1
    have e : (if (sub p).1 = true then loopP sub tp t ops 160 (sub p).2 else (false, (sub p).2)) = (false, (sub p).2) := if_neg y
    rw [e, if_neg Bool.false_ne_true]
    exact h1
theorem isCm_iff (x : Int32) : isCm x = true ↔ opk x = Int32.ofInt 4 := by
  constructor
  · intro h
    unfold isCm at h
    simp only [Bool.or_eq_true, beq_iff_eq] at h
    rcases h with rfl | rfl <;> decide
  · intro h
    rcases opk_sgn (x := x) (by rw [h]; decide) with rfl | rfl | rfl | rfl | rfl | rfl | rfl <;> first | rfl | exact absurd h (by decide)
theorem cmp_sim (hx : Lex tp tq t) {sub : GF} (hsub : Sim tp tq t (Int32.ofInt 5) (Int32.ofInt 5) n sub) : Sim tp tq t (Int32.ofInt 4) (Int32.ofInt 4) n (cmpP sub tp t) := by
  intro p a m br hs op oc hat htop hop hbr
  have h160 := hx.2
  rw [if_neg (by decide)] at hbr
  have ht5 : TopLt (Int32.ofInt 5) hs := htop.mono (by decide)
  have h1 := hsub p a m br hs op oc hat ht5 hop (by rw [if_neg (by decide)]; exact hbr)
  have hl := hat.2.2.1
  unfold cmpP
  by_cases y : (sub p).1 = true
  · rw [if_pos y] at h1
    rw [show (if (sub p).1 = true then (if isCm (srt (sub p).2) = true then (if (sub (advP tp t (sub p).2)).1 = true then (true, addP (srt (sub p).2) 0 (sub (advP tp t (sub p).2)).2) else (false, (sub (advP tp t (sub p).2)).2)) else (true, (sub p).2)) else (false, (sub p).2)) = _ from if_pos y]
    obtain ⟨a', m', br', P', c, hw, he, hu, hex⟩ := h1
    rw [unw_top ht5] at hu
    obtain ⟨w1, w2, w3, w4, w5, w6⟩ := id hw
    obtain ⟨hT, b1, b2, b3, b4⟩ := tok hx w2
    by_cases z : isCm (srt (sub p).2) = true
    · rw [if_pos z]
      rw [w3] at z ⊢
      have z : isCm (lexF tp t a').2.2.1 = true := z
      obtain ⟨m1, rfl, eS⟩ := eR_step (tq := tq) w5 false br' P'
      have hk := (isCm_iff _).mp z
      obtain ⟨k1, k2, k3, k4, k5, k6, k7⟩ := sgn_op (x := (lexF tp t a').2.2.1) (by rw [hk]; decide)
      rw [hk] at k1 k7
      have hop0 : ¬ opk (lexF tp t a').2.2.1 = Int32.ofInt 0 := by rw [hk]; first | exact hr0 | decide
      have hsg := hT.sg
      have b5 := b4 k4
      obtain ⟨o, ho⟩ : ∃ o, o = sgn (lexF tp t a').2.2.1 := ⟨_, rfl⟩
      rw [← ho] at k1 k2 k3 k5 k6 k7 hsg
      have k7 : lt12 o = false := k7
      have hsx : srt (lexF tp t a', p.2 ++ c) = (lexF tp t a').2.2.1 := rfl
      have eadv : advP tp t (lexF tp t a', p.2 ++ c) = (lexF tp t (lexF tp t a').2.1, p.2 ++ c) := rfl
      rw [hsx, eadv]
      have hst : stE false br' (nxtF WS tq t a').2.2.1 (nxtF WS tq t a').2.2.2 P' = .inr (true, lt12 o, (o :: hs, op, oc ++ c.map gm)) := by
        rw [stE_op (by rw [hsg]; exact k3), hsg]
        exact btS_4 k1 hu (tp4_no htop)
      have e2 : eR tq t m true br a (hs, op, oc) = eR tq t m1 true (lt12 o) (lexF tp t a').2.1 (o :: hs, op, oc ++ c.map gm) := by
        rw [he, eS, hst]
        show eR tq t m1 true (lt12 o) (nxtF WS tq t a').2.1 _ = _
        rw [b2]
      generalize hx0 : (lexF tp t a').2.2.1 = x at *
      generalize ha1 : (lexF tp t a').2.1 = a1 at *
      have hs2 := hsub (lexF tp t a1, p.2 ++ c) a1 m1 (lt12 o) (o :: hs) op (oc ++ c.map gm) ⟨rfl, b3, by show (p.2 ++ c).length ≤ _; rw [List.length_append]; omega, by omega⟩ (TopLt.cons (by rw [k1]; decide)) hop (by rw [if_neg (by decide)]; exact fun _ => k7)
      by_cases y2 : (sub (lexF tp t a1, p.2 ++ c)).1 = true
      · rw [if_pos y2] at hs2 ⊢
        rw [if_pos rfl]
        obtain ⟨a3, m3, br3, P3, c3, ⟨v1, v2, v3, v4, v5, v6⟩, e3, u3, x3⟩ := hs2
        rw [v3] at x3 ⊢
        have x3 : Ex (Int32.ofInt 5) (lexF tp t a3).2.2.1 P3 := x3
        have hl3 : (p.2 ++ c ++ c3).length < 160 := by rw [List.length_append, List.length_append]; omega
        have ead : addP x 0 (lexF tp t a3, p.2 ++ c ++ c3) = (lexF tp t a3, p.2 ++ (c ++ c3 ++ [(x, 0)])) := by
          rw [addP_lt hl3]
          simp only [List.append_assoc]
        rw [show addP x 0 (lexF tp t a3, (lexF tp t a1, p.2 ++ c).2 ++ c3) = (lexF tp t a3, p.2 ++ (c ++ c3 ++ [(x, 0)])) from ead]
        rw [unw_top (TopLt.cons (by rw [k1]; decide))] at u3
        refine ⟨a3, m3, br3, P3, c ++ c3 ++ [(x, 0)], ⟨by omega, v2, rfl, ?_, v5, (w6.app v6).app (Vd.one (Or.inr (Or.inr (Or.inr (Or.inr hop0)))))⟩, e2.trans e3, ?_, ?_⟩
        · rw [List.length_append, List.length_append]
          show c.length + c3.length + 1 ≤ _
          omega
        · rw [unw_via (r := Int32.ofInt 4) (by decide) u3, unw_pop (by rw [k1]; decide) k5 k6, List.map_append, List.map_append]
          show unwF (Int32.ofInt 4) hs op _ = unwF (Int32.ofInt 4) hs op (oc ++ (c.map gm ++ c3.map gm ++ [gm (x, 0)]))
          rw [k2]
          simp only [List.append_assoc]
        · show Ex (Int32.ofInt 4) (lexF tp t a3).2.2.1 P3
          rcases x3 with x3 | ⟨-, x3, -⟩
          · by_cases z4 : opk (lexF tp t a3).2.2.1 = Int32.ofInt 4
            · refine Or.inr ⟨z4, Int32.le_refl _, ?_⟩
              rw [u3]
              show (if rkF o = Int32.ofInt 4 then true else false) = true
              rw [if_pos k1]
            · refine Or.inl ?_
              rcases opk_all (lexF tp t a3).2.2.1 with q | q | q | q | q | q <;> rw [q] at x3 z4 ⊢ <;> revert x3 z4 <;> decide
          · exact absurd x3 (by decide)
      · rw [if_neg y2] at hs2 ⊢
        rw [if_neg Bool.false_ne_true]
        unfold Bad
        rw [e2]
        exact hs2
    · rw [if_neg z, if_pos rfl]
      refine ⟨a', m', br', P', c, hw, he, ?_, ?_⟩
      · rw [unw_via (r := Int32.ofInt 4) (by decide) hu]
      · have z4 : ¬ opk (srt (sub p).2) = Int32.ofInt 4 := fun y => z ((isCm_iff _).mpr y)
        rcases hex with x3 | ⟨-, x3, -⟩
        · refine Or.inl ?_
          rcases opk_all (srt (sub p).2) with q | q | q | q | q | q <;> rw [q] at x3 z4 ⊢ <;> revert x3 z4 <;> decide
        · exact absurd x3 (by decide)
  · rw [if_neg y] at h1
    rw [show (if (sub p).1 = true then (if isCm (srt (sub p).2) = true then (if (sub (advP tp t (sub p).2)).1 = true then (true, addP (srt (sub p).2) 0 (sub (advP tp t (sub p).2)).2) else (false, (sub (advP tp t (sub p).2)).2)) else (true, (sub p).2)) else (false, (sub p).2)) = (false, (sub p).2) from if_neg y, if_neg Bool.false_ne_true]
    exact h1
theorem not_sim (hx : Lex tp tq t) {cmp : GF} {prev : Option GF} (hn : n ≤ 5) (h0 : prev = none → n = 0) (h1 : ∀ f, prev = some f → ∃ n', n = n' + 1 ∧ Sim tp tq t (Int32.ofInt 3) (Int32.ofInt 4) n' f) (hc : Sim tp tq t (Int32.ofInt 4) (Int32.ofInt 4) n cmp) : Sim tp tq t (Int32.ofInt 3) (Int32.ofInt 4) n (notP cmp prev tp t) := by
  rintro ⟨k, cd⟩ a m br hs op oc ⟨hp, ha, hl, hm⟩ htop hop hbr
  rw [if_pos (by decide)] at hbr
  subst hbr
  have hl : cd.length ≤ a := hl
  have hp : k = lexF tp t a := hp
  have h160 := hx.2
  by_cases q : k.2.2.1 = 9
  · obtain ⟨m1, rfl, eS⟩ := eR_step (tq := tq) hm true true (hs, op, oc)
    obtain ⟨hT, b1, b2, b3, b4⟩ := tok hx ha
    rw [← hp] at hT b1 b2 b3 b4
    generalize nxtF WS tq t a = r at eS hT b1 b2
    have n6 := hT.num.2.2.1.mpr q
    have b5 : a < k.2.1 := b4 (by rw [q]; decide)
    cases prev with
    | none =>
      have en := h0 rfl
      subst en
      have e5 := op_full hop
      have ev : notP cmp none tp t (k, cd) = (false, (k, cd)) := if_pos q
      rw [ev, if_neg Bool.false_ne_true]
      unfold Bad
      rw [eS, stE_6 n6, onS_5 (P := (hs, op, oc)) e5]
      exact ⟨rfl, b1⟩
    | some f =>
      obtain ⟨n', rfl, s3⟩ := h1 f rfl
      obtain ⟨e5, e6⟩ := op_more hn hop
      have ev : notP cmp (some f) tp t (k, cd) = if (f (advP tp t (k, cd))).1 = true then (true, addP 9 0 (f (advP tp t (k, cd))).2) else (false, (f (advP tp t (k, cd))).2) := if_pos q
      rw [ev]
      have eS : eR tq t (m1 + 1) true true a (hs, op, oc) = eR tq t m1 true true k.2.1 (Int32.ofInt 13 :: hs, op + 1, oc) := by
        rw [eS, stE_6 n6, onS_n (P := (hs, op, oc)) e5]
        show eR tq t m1 true true r.2.1 _ = _
        rw [b2]
      have hI := s3 (advP tp t (k, cd)) k.2.1 m1 true (Int32.ofInt 13 :: hs) (op + 1) oc ⟨rfl, b3, by show cd.length ≤ _; omega, by omega⟩ (TopLt.cons (by decide)) e6 (by rw [if_pos (by decide)])
      by_cases y : (f (advP tp t (k, cd))).1 = true
      · rw [if_pos y] at hI ⊢
        rw [if_pos rfl]
        obtain ⟨a', m', br', P', c, ⟨v1, v2, v3, v4, v5, v6⟩, he, hu, hex⟩ := hI
        have hlc : (cd ++ c).length < 160 := by rw [List.length_append]; omega
        have ead : addP 9 0 (f (advP tp t (k, cd))).2 = (lexF tp t a', cd ++ (c ++ [(9, 0)])) := by
          rw [v3]
          show addP 9 0 (lexF tp t a', cd ++ c) = _
          rw [addP_lt hlc, List.append_assoc]
        rw [v3] at hex
        refine ⟨a', m', br', P', c ++ [(9, 0)], ⟨by omega, v2, ead, by rw [List.length_append]; show c.length + 1 ≤ _; omega, v5, v6.app (Vd.one (Or.inr (Or.inr (Or.inl rfl))))⟩, eS.trans he, ?_, ?_⟩
        · rw [hu, unw_13, List.map_append, ← List.append_assoc]
          rfl
        · rw [ead]
          exact hex
      · rw [if_neg y] at hI ⊢
        rw [if_neg Bool.false_ne_true]
        unfold Bad
        rw [eS]
        exact hI
  · have ev : notP cmp prev tp t (k, cd) = cmp (k, cd) := if_neg q
    rw [ev]
    have hI := hc (k, cd) a m true hs op oc ⟨hp, ha, hl, hm⟩ htop hop (by rw [if_neg (by decide)]; exact fun z => absurd z q)
    by_cases y : (cmp (k, cd)).1 = true
    · rw [if_pos y] at hI ⊢
      obtain ⟨a', m', br', P', c, hw, he, hu, hex⟩ := hI
      rw [unw_top htop] at hu
      refine ⟨a', m', br', P', c, hw, he, ?_, ?_⟩
      · rw [unw_via (r := Int32.ofInt 3) (by decide) hu]
      · rcases hex with x3 | ⟨h4, -, x3⟩
        · refine Or.inl ?_
          rcases opk_all (srt (cmp (k, cd)).2) with q | q | q | q | q | q <;> rw [q] at x3 ⊢ <;> revert x3 <;> decide
        · exact Or.inr ⟨h4, by decide, x3⟩
    · rw [if_neg y] at hI ⊢
      exact hI
def LvS (tp tq : List Int32) (t n : Nat) (f : GF × GF × GF) : Prop := Sim tp tq t (Int32.ofInt 1) (Int32.ofInt 1) n f.1 ∧ Sim tp tq t (Int32.ofInt 3) (Int32.ofInt 4) n f.2.1 ∧ SimO tp tq t n f.2.2
theorem isS_iff (s x : Int32) : isS s x = true ↔ x = s := by
  unfold isS
  exact beq_iff_eq
theorem ops_42 (x : Int32) : isS 42 x = true ↔ opk x = Int32.ofInt 6 := by
  rw [isS_iff]
  constructor
  · rintro rfl; decide
  · intro h
    rcases opk_sgn (x := x) (by rw [h]; decide) with rfl | rfl | rfl | rfl | rfl | rfl | rfl <;> first | rfl | exact absurd h (by decide)
theorem ops_8 (x : Int32) : isS 8 x = true ↔ opk x = Int32.ofInt 2 := by
  rw [isS_iff]
  constructor
  · rintro rfl; decide
  · intro h
    rcases opk_sgn (x := x) (by rw [h]; decide) with rfl | rfl | rfl | rfl | rfl | rfl | rfl <;> first | rfl | exact absurd h (by decide)
theorem ops_7 (x : Int32) : isS 7 x = true ↔ opk x = Int32.ofInt 1 := by
  rw [isS_iff]
  constructor
  · rintro rfl; decide
  · intro h
    rcases opk_sgn (x := x) (by rw [h]; decide) with rfl | rfl | rfl | rfl | rfl | rfl | rfl <;> first | rfl | exact absurd h (by decide)
theorem ops_pm (x : Int32) : isPM x = true ↔ opk x = Int32.ofInt 5 := by
  constructor
  · intro h
    unfold isPM at h
    simp only [Bool.or_eq_true, beq_iff_eq] at h
    rcases h with rfl | rfl <;> decide
  · intro h
    rcases opk_sgn (x := x) (by rw [h]; decide) with rfl | rfl | rfl | rfl | rfl | rfl | rfl <;> first | rfl | exact absurd h (by decide)
theorem opk_step (x : Int32) : (opk x < Int32.ofInt 7 → ¬ opk x = Int32.ofInt 6 → opk x < Int32.ofInt 6) ∧ (opk x < Int32.ofInt 6 → ¬ opk x = Int32.ofInt 5 → opk x < Int32.ofInt 5) ∧ (opk x < Int32.ofInt 3 → ¬ opk x = Int32.ofInt 2 → opk x < Int32.ofInt 2) ∧ (opk x < Int32.ofInt 2 → ¬ opk x = Int32.ofInt 1 → opk x < Int32.ofInt 1) := by
  rcases opk_all x with q | q | q | q | q | q <;> rw [q] <;> decide
theorem mkLv_sim (hx : Lex tp tq t) (hn : n ≤ 5) {prev : Option (GF × GF × GF)} (h0 : prev = none → n = 0) (h1 : ∀ f, prev = some f → ∃ n', n = n' + 1 ∧ LvS tp tq t n' f) : LvS tp tq t n (mkLv tp t prev) := by
  have c1 : SimO tp tq t n (oneP (prev.map (fun f => (f.1, f.2.2))) tp t) := by
    refine one_sim hx hn (fun z => h0 ?_) (fun f hf => ?_)
    · cases prev with
      | none => rfl
      | some f => cases z
    · cases prev with
      | none => cases hf
      | some f' =>
        cases hf
        obtain ⟨n', e, h⟩ := h1 f' rfl
        exact ⟨n', e, h.1, h.2.2⟩
  have c6 := bin_sim hx (r := Int32.ofInt 6) (ops := isS 42) (by decide) (Int32.le_refl _) ops_42 (by decide) (by decide) (Or.inr (by decide)) (by decide) (fun x => (opk_step x).1) (one_7 c1)
  have c5 := bin_sim hx (r := Int32.ofInt 5) (ops := isPM) (by decide) (Int32.le_refl _) ops_pm (by decide) (by decide) (Or.inr (by decide)) (by decide) (fun x => (opk_step x).2.1) c6
  have c4 := cmp_sim hx c5
  have c3 : Sim tp tq t (Int32.ofInt 3) (Int32.ofInt 4) n (notP (cmpP (binP (binP (oneP (prev.map (fun f => (f.1, f.2.2))) tp t) tp t (isS 42)) tp t isPM) tp t) (prev.map (fun f => f.2.1)) tp t) := by
    refine not_sim hx hn (fun z => h0 ?_) (fun f hf => ?_) c4
    · cases prev with
      | none => rfl
      | some f => cases z
    · cases prev with
      | none => cases hf
      | some f' =>
        cases hf
        obtain ⟨n', e, h⟩ := h1 f' rfl
        exact ⟨n', e, h.2.1⟩
  have c2 := bin_sim hx (r := Int32.ofInt 2) (ops := isS 8) (by decide) (by decide) ops_8 (by decide) (by decide) (Or.inl (by decide)) (by decide) (fun x => (opk_step x).2.2.1) c3
  have c0 := bin_sim hx (r := Int32.ofInt 1) (ops := isS 7) (by decide) (Int32.le_refl _) ops_7 (by decide) (by decide) (Or.inl (by decide)) (by decide) (fun x => (opk_step x).2.2.2) c2
  exact ⟨c0, c3, c1⟩
theorem lvP_sim (hx : Lex tp tq t) : ∀ n, n ≤ 5 → LvS tp tq t n (lvP tp t n)
  | 0, h => mkLv_sim hx h (fun _ => rfl) (fun f z => by cases z)
  | n + 1, h => mkLv_sim hx h (fun z => by cases z) (fun f z => by cases z; exact ⟨n, rfl, lvP_sim hx n (by omega)⟩)
end SIMT
