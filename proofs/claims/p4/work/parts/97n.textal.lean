/-! THE READERS ALIKE: a whole text -/
section TEXTAL
variable {tp tq : List Int32} {t : Nat}
theorem e_end (hx : Lex tp tq t) {orf : GF} (h : Sim tp tq t (Int32.ofInt 1) (Int32.ofInt 1) 5 orf) {p : PS} {a : Nat} (hp : p.1 = lexF tp t a) (ha : a ≤ t) (hl : p.2.length ≤ a) (codes : List Int32) :
    (∃ a' c, (orf p).1 = true ∧ srt (orf p).2 = 59 ∧ a < a' ∧ a' ≤ t ∧ (orf p).2 = (lexF tp t a', p.2 ++ c) ∧ c.length ≤ a' - a ∧ (eR tq t (t + 1) true true a ([], Int32.ofInt 0, codes)).1 = true ∧ (eR tq t (t + 1) true true a ([], Int32.ofInt 0, codes)).2.1.2.1 = (lexF tp t a').2.1 ∧ (eR tq t (t + 1) true true a ([], Int32.ofInt 0, codes)).2.2.2.2 = codes ++ c.map gm ∧ Vd c)
    ∨ (¬ ((orf p).1 = true ∧ srt (orf p).2 = 59) ∧ (eR tq t (t + 1) true true a ([], Int32.ofInt 0, codes)).1 = false ∧ (eR tq t (t + 1) true true a ([], Int32.ofInt 0, codes)).2.1.1 = (orf p).2.1.1) := by
  have hI := h p a (t + 1) true [] (Int32.ofInt 0) codes ⟨hp, ha, hl, by omega⟩ (fun s q e => by cases e) (by decide) (by rw [if_pos (by decide)])
  by_cases y : (orf p).1 = true
  · rw [if_pos y] at hI
    obtain ⟨a', m', br', P', c, ⟨v1, v2, v3, v4, v5, v6⟩, he, hu, hex⟩ := hI
    have hu : unwF (Int32.ofInt 1) P'.1 P'.2.1 P'.2.2 = ([], Int32.ofInt 0, codes ++ c.map gm) := hu
    obtain ⟨m2, rfl, eS2⟩ := eR_step (tq := tq) v5 false br' P'
    obtain ⟨hT2, c1, c2, c3, c4⟩ := tok hx v2
    rw [he, eS2]
    rw [v3] at hex ⊢
    have hex : Ex (Int32.ofInt 1) (lexF tp t a').2.2.1 P' := hex
    by_cases z : (lexF tp t a').2.2.1 = 59
    · refine Or.inl ⟨a', c, y, z, v1, v2, rfl, v4, ?_⟩
      rw [stE_59 (hT2.num.2.2.2.2.2.1.mpr z), hu]
      exact ⟨rfl, c2, rfl, v6⟩
    · refine Or.inr ⟨fun w => z w.2, ?_⟩
      by_cases z1 : (lexF tp t a').2.2.1 = 41
      · rw [stE_41 (hT2.num.2.2.2.2.2.2.1.mpr z1), hu]
        exact ⟨rfl, c1⟩
      · by_cases z3 : opk (lexF tp t a').2.2.1 = Int32.ofInt 0
        · rw [stE_no (fun y => z (hT2.num.2.2.2.2.2.1.mp y)) (fun y => z1 (hT2.num.2.2.2.2.2.2.1.mp y)) (hT2.sg.trans (sgn_no z3))]
          exact ⟨rfl, c1⟩
        · have so := sgn_op z3
          rcases hex with hex | ⟨hex, -, h4⟩
          · rcases opk_all (lexF tp t a').2.2.1 with o | o | o | o | o | o
            · exact absurd o z3
            all_goals (rw [o] at hex; exact absurd hex (by decide))
          · rw [stE_op (by rw [hT2.sg]; exact so.2.2.1), hT2.sg]
            obtain ⟨Q, hQ⟩ := btS_4n (so.1.trans hex) h4
            rw [hQ]
            exact ⟨rfl, c1⟩
  · rw [if_neg y] at hI
    exact Or.inr ⟨fun w => y w.1, hI⟩
theorem hd_iff {s v tk w : Int32} (h : TR s v tk w) {k : Nat} (hk : k < 3) (r1 r2 : Nat) : hdF (r1, r2, tk, w) k = true ↔ s = 4 + nI k := by
  have hk3 : 4 + nI k = 4 ∨ 4 + nI k = 5 ∨ 4 + nI k = 6 := by
    rcases (show k = 0 ∨ k = 1 ∨ k = 2 by omega) with rfl | rfl | rfl
    · exact Or.inl (by decide)
    · exact Or.inr (Or.inl (by decide))
    · exact Or.inr (Or.inr (by decide))
  constructor
  · intro q
    unfold hdF at q
    by_cases z : tk = Int32.ofInt 3
    · have e : (if w = nI k then true else false) = true := (if_pos z).symm.trans q
      have ew : w = nI k := by
        by_cases z2 : w = nI k
        · exact z2
        · rw [if_neg z2] at e; cases e
      have hs := h.num.2.2.2.2.2.2.2.2.mp z
      obtain ⟨-, h2⟩ := h.key hs
      rw [← ew, h2, Int32.add_comm]
      exact (Int32.sub_add_cancel s 4).symm
    · have e : false = true := (if_neg z).symm.trans q
      cases e
  · intro q
    rw [← q] at hk3
    obtain ⟨h1, h2⟩ := h.key hk3
    unfold hdF
    have e : w = nI k := by
      rw [h2, q, Int32.add_comm]
      exact Int32.add_sub_cancel (nI k) 4
    exact (if_pos h1).trans (if_pos e)
theorem rt_step (hx : Lex tp tq t) {orf : GF} (h : Sim tp tq t (Int32.ofInt 1) (Int32.ofInt 1) 5 orf) {p : PS} {a k : Nat} (hk : k < 3) (hp : p.1 = lexF tp t a) (ha : a ≤ t) (hl : p.2.length ≤ a) (m tx : Nat) (b : Int32) (codes st starts : List Int32) :
    (∃ a' c b', rtP orf tp t (m + 1) k p st = rtP orf tp t m (k + 1) (lexF tp t a', p.2 ++ c) (putF st (nI k + 1) (nI (p.2 ++ c).length)) ∧ a' ≤ t ∧ (p.2 ++ c).length ≤ a' ∧ txL WS tq t tx (m + 1) k (true, a, b, codes, starts) = txL WS tq t tx m (k + 1) (true, a', b', codes ++ c.map gm, starts.set (4 * tx + k) (nI codes.length)) ∧ Vd c)
    ∨ ((rtP orf tp t (m + 1) k p st).1 = false ∧ (txL WS tq t tx (m + 1) k (true, a, b, codes, starts)).1 = false ∧ (txL WS tq t tx (m + 1) k (true, a, b, codes, starts)).2.2.1 = nI (rtP orf tp t (m + 1) k p st).2.1.1.1) := by
  obtain ⟨p1, cd⟩ := p
  have hp : p1 = lexF tp t a := hp
  have hl : cd.length ≤ a := hl
  obtain ⟨hT, b1, b2, b3, b4⟩ := tok hx ha
  rw [← hp] at hT b1 b2 b3 b4
  have hh := hd_iff hT hk (nxtF WS tq t a).1 (nxtF WS tq t a).2.1
  have hh : hdF (nxtF WS tq t a) k = true ↔ p1.2.2.1 = 4 + nI k := hh
  rw [txL, if_pos rfl]
  show _ ∨ _
  by_cases z : p1.2.2.1 = 4 + nI k
  · rw [if_pos (hh.mpr z), rtP, if_pos (show srt (p1, cd) = 4 + nI k from z)]
    have he := e_end hx h (p := advP tp t (p1, cd)) (a := p1.2.1) rfl b3 (by
      show cd.length ≤ p1.2.1
      have h1 : ¬ p1.2.2.1 = 0 := by
        rw [z]
        rcases (show k = 0 ∨ k = 1 ∨ k = 2 by omega) with rfl | rfl | rfl <;> decide
      have := b4 h1
      omega) codes
    rw [b2]
    rcases he with ⟨a', c, y1, y2, v1, v2, v3, v4, g1, g2, g3, g4⟩ | ⟨y, g1, g2⟩
    · rw [if_pos y1, if_pos y2]
      obtain ⟨-, -, -, d3, -⟩ := tok hx v2
      have hcl : (cd ++ c).length ≤ a' := by rw [List.length_append]; have : c.length ≤ a' - p1.2.1 := v4; have : cd.length ≤ a := hl; have h1 : ¬ p1.2.2.1 = 0 := (by
          rw [z]
          rcases (show k = 0 ∨ k = 1 ∨ k = 2 by omega) with rfl | rfl | rfl <;> decide); have := b4 h1; omega
      refine Or.inl ⟨(lexF tp t a').2.1, c, nI (eR tq t (t + 1) true true p1.2.1 ([], Int32.ofInt 0, codes)).2.1.1, ?_, d3, ?_, ?_, g4⟩
      · rw [v3]
        rfl
      · show (cd ++ c).length ≤ _
        have := nxt_spec WS tq v2
        have hh2 := (tok hx v2).2.2.1
        rw [← hh2]
        omega
      · rw [← g3, ← g2]
        show txL WS tq t tx m (k + 1) ((eR tq t (t + 1) true true p1.2.1 ([], Int32.ofInt 0, codes)).1, _) = _
        rw [g1]
    · refine Or.inr ?_
      have e2 : ∃ st', (if (orf (advP tp t (p1, cd))).1 = true then (if srt (orf (advP tp t (p1, cd))).2 = 59 then rtP orf tp t m (k + 1) (advP tp t (orf (advP tp t (p1, cd))).2) (putF st (nI k + 1) (nI (orf (advP tp t (p1, cd))).2.2.length)) else (false, (orf (advP tp t (p1, cd))).2, putF st (nI k + 1) (nI (orf (advP tp t (p1, cd))).2.2.length))) else (false, (orf (advP tp t (p1, cd))).2, st)) = (false, (orf (advP tp t (p1, cd))).2, st') := by
        by_cases y1 : (orf (advP tp t (p1, cd))).1 = true
        · rw [if_pos y1, if_neg (fun y2 => y ⟨y1, y2⟩)]
          exact ⟨_, rfl⟩
        · rw [if_neg y1]
          exact ⟨_, rfl⟩
      obtain ⟨st', e2⟩ := e2
      rw [e2]
      show false = false ∧ (txL WS tq t tx m (k + 1) ((eR tq t (t + 1) true true p1.2.1 ([], Int32.ofInt 0, codes)).1, _)).1 = false ∧ (txL WS tq t tx m (k + 1) ((eR tq t (t + 1) true true p1.2.1 ([], Int32.ofInt 0, codes)).1, _)).2.2.1 = _
      rw [g1, txL_no]
      exact ⟨rfl, rfl, by rw [← g2]⟩
  · have e1 : rtP orf tp t (m + 1) k (p1, cd) st = (false, (p1, cd), st) := by
      rw [rtP]
      exact if_neg z
    rw [if_neg (fun q => z (hh.mp q)), e1]
    exact Or.inr ⟨rfl, rfl, by rw [← b1]⟩
theorem putF_4 {s0 s1 s2 s3 v : Int32} : putF [s0, s1, s2, s3] (nI 0 + 1) v = [s0, v, s2, s3] ∧ putF [s0, s1, s2, s3] (nI 1 + 1) v = [s0, s1, v, s3] ∧ putF [s0, s1, s2, s3] (nI 2 + 1) v = [s0, s1, s2, v] := ⟨rfl, rfl, rfl⟩
/-- what both make of a tape -/
theorem text_al (hx : Lex tp tq t) {orf : GF} (h : Sim tp tq t (Int32.ofInt 1) (Int32.ofInt 1) 5 orf) {st : List Int32} (h4 : st.length = 4) (h0 : st.getD 0 0 = 0) {tx : Nat} {b : Int32} {starts : List Int32} (hs24 : starts.length = 24) (htx : tx < 6) :
    (txE WS tq t (txL WS tq t tx 3 0 (true, 0, b, [], starts))).1 = (rtP orf tp t 3 0 (lexF tp t 0, []) st).1 ∧
    ((rtP orf tp t 3 0 (lexF tp t 0, []) st).1 = false → (txE WS tq t (txL WS tq t tx 3 0 (true, 0, b, [], starts))).2 = nI (rtP orf tp t 3 0 (lexF tp t 0, []) st).2.1.1.1) ∧
    ((rtP orf tp t 3 0 (lexF tp t 0, []) st).1 = true → ∃ c1 c2 c3 : List (Int32 × Int32), (rtP orf tp t 3 0 (lexF tp t 0, []) st).2.1.2 = c1 ++ c2 ++ c3 ∧ (Vd c1 ∧ Vd c2 ∧ Vd c3) ∧ (c1 ++ c2 ++ c3).length ≤ 160 ∧ (rtP orf tp t 3 0 (lexF tp t 0, []) st).2.2 = [0, nI c1.length, nI (c1 ++ c2).length, nI (c1 ++ c2 ++ c3).length] ∧
      (txL WS tq t tx 3 0 (true, 0, b, [], starts)).2.2.2.1 = (c1 ++ c2 ++ c3).map gm ∧
      (txL WS tq t tx 3 0 (true, 0, b, [], starts)).2.2.2.2 = ((starts.set (4 * tx) 0).set (4 * tx + 1) (nI c1.length)).set (4 * tx + 2) (nI (c1 ++ c2).length)) := by
  match st, h4 with
  | [s0, s1, s2, s3], _ =>
  have h0 : s0 = 0 := h0
  subst h0
  have no : ∀ {R : Bool × PS × List Int32} {T : TS}, R.1 = false → T.1 = false → T.2.2.1 = nI R.2.1.1.1 → (txE WS tq t T).1 = R.1 ∧ (R.1 = false → (txE WS tq t T).2 = nI R.2.1.1.1) := by
    intro R T h1 h2 h3
    have e : txE WS tq t T = (false, T.2.2.1) := by
      unfold txE
      rw [if_neg (by rw [h2]; decide)]
    rw [e]
    exact ⟨h1.symm, fun _ => h3⟩
  have no3 : ∀ {R : Bool × PS × List Int32} {Q : Prop}, R.1 = false → R.1 = true → Q := fun h1 h2 => by rw [h1] at h2; cases h2
  rcases rt_step hx h (p := (lexF tp t 0, [])) (a := 0) (k := 0) (by decide) rfl (Nat.zero_le _) (Nat.le_refl _) 2 tx b [] [0, s1, s2, s3] starts with ⟨a1, c1, b1, e1, u1, v1, f1, k1⟩ | ⟨h1, h2, h3⟩
  rotate_left
  · exact ⟨(no h1 h2 h3).1, (no h1 h2 h3).2, no3 h1⟩
  rw [e1, f1, putF_4.1]
  have v1 : c1.length ≤ a1 := v1
  rcases rt_step hx h (p := (lexF tp t a1, [] ++ c1)) (a := a1) (k := 1) (by decide) rfl u1 v1 1 tx b1 ([] ++ c1.map gm) [0, nI ([] ++ c1).length, s2, s3] (starts.set (4 * tx + 0) (nI ([] : List Int32).length)) with ⟨a2, c2, b2, e2, u2, v2, f2, k2⟩ | ⟨h1, h2, h3⟩
  rotate_left
  · exact ⟨(no h1 h2 h3).1, (no h1 h2 h3).2, no3 h1⟩
  rw [e2, f2, putF_4.2.1]
  rcases rt_step hx h (p := (lexF tp t a2, [] ++ c1 ++ c2)) (a := a2) (k := 2) (by decide) rfl u2 v2 0 tx b2 ([] ++ c1.map gm ++ c2.map gm) [0, nI ([] ++ c1).length, nI ([] ++ c1 ++ c2).length, s3] ((starts.set (4 * tx + 0) (nI ([] : List Int32).length)).set (4 * tx + 1) (nI ([] ++ c1.map gm).length)) with ⟨a3, c3, b3, e3, u3, v3, f3, k3⟩ | ⟨h1, h2, h3⟩
  rotate_left
  · exact ⟨(no h1 h2 h3).1, (no h1 h2 h3).2, no3 h1⟩
  rw [e3, f3, putF_4.2.2]
  have v3 : ([] ++ c1 ++ c2 ++ c3).length ≤ a3 := v3
  have h160 := hx.2
  obtain ⟨hT, d1, d2, d3, d4⟩ := tok hx u3
  have n0 := hT.num.2.2.2.2.2.2.2.1
  have eT : ∀ T, txL WS tq t tx 0 3 T = T := fun T => rfl
  have eR : ∀ st, rtP orf tp t 0 3 (lexF tp t a3, [] ++ c1 ++ c2 ++ c3) st = (if (lexF tp t a3).2.2.1 = 0 then true else false, (lexF tp t a3, [] ++ c1 ++ c2 ++ c3), st) := fun st => rfl
  rw [eT, eR]
  unfold txE
  rw [if_pos rfl]
  simp only [List.nil_append] at v3 ⊢
  by_cases q : (lexF tp t a3).2.2.1 = 0
  · rw [if_pos q, if_pos (show (nxtF WS tq t a3).2.2.1 = Int32.ofInt 0 from n0.mpr q)]
    refine ⟨rfl, fun z => (by cases z), fun _ => ⟨c1, c2, c3, rfl, ⟨k1, k2, k3⟩, by omega, rfl, ?_, ?_⟩⟩
    · simp only [List.map_append]
    · simp only [List.length_map, List.length_append, List.length_nil]
      rfl
  · rw [if_neg q, if_neg (show ¬ (nxtF WS tq t a3).2.2.1 = Int32.ofInt 0 from fun z => q (n0.mp z))]
    exact ⟨rfl, fun _ => (by rw [d1]), fun z => (by cases z)⟩
end TEXTAL
