/-! THE REFERENCE in general: each of its calls returns, and all is kept -/
section RCALL
variable {l : Launch} {X : List (List Int32)} {S : CS} {M : MS}
theorem R_ans {d : Nat} {g : Sig} {a : List Value} {v : Int32} (h : RI M) (q : Ans l d X g a (mk S M) v) : Ctr l d X g a (mk S M) (rkQ S) := q.weak (by
  rintro hp w ⟨rfl, rfl⟩
  exact ⟨⟨M, h, rfl⟩, _, rfl⟩)
theorem R_asks (h : RI M) (t w who part : Int32) : Ctr l 3 X sgX8_asks [.ref 27, .int t, .int w, .int who, .int part] (mk S M) (rkQ S) := let ⟨_, _, _, _, q⟩ := h; R_query h (g_asks q.1 t w who part)
theorem R_means (h : RI M) (t part : Int32) : Ctr l 4 X sgX8_means [.ref 27, .int t, .int part] (mk S M) (rkL S) := let ⟨_, _, _, _, q⟩ := h; R_queryL h (g_means q.1 t part)
theorem R_pairs (h : RI M) (who : Int32) : Ctr l 4 X sgX8_pairs [.ref 27, .int who] (mk S M) (rkQ S) := let ⟨_, _, _, _, q⟩ := h; R_query h (g_pairs q.1 who)
theorem R_worlds (h : RI M) : Ctr l 6 X sgX8_worlds [.ref 27] (mk S M) (rkL S) := let ⟨_, _, _, _, q⟩ := h; R_queryL h (g_worlds q.1)
theorem R_behind (h : RI M) (n what : Int32) : Ctr l 5 X sgX8_behind [.ref 27, .int n, .int what] (mk S M) (rkQ S) := let ⟨_, _, _, _, q⟩ := h; R_query h (g_behind q.1 n what)
theorem R_cannot (h : RI M) : Ctr l 5 X sgX8_cannot [.ref 27] (mk S M) (rkQ S) := let ⟨_, _, _, _, q⟩ := h; R_query h (g_cannot q.1)
theorem R_lies (h : RI M) : Ctr l 6 X sgX8_lies [.ref 27] (mk S M) (rkQ S) := let ⟨_, _, _, _, q⟩ := h; R_query h (g_lies q.1)
theorem R_least (h : RI M) (what : Int32) : Ctr l 6 X sgX8_least [.ref 27, .int what] (mk S M) (rkQ S) := let ⟨_, _, _, _, q⟩ := h; R_query h (g_least q.1 what)
theorem R_mad (h : RI M) (what : Int32) : Ctr l 5 X sgX8_mad [.ref 27, .int what] (mk S M) (rkQ S) := let ⟨_, _, _, _, q⟩ := h; R_query h (g_mad q.1 what)
theorem R_habit (h : RI M) (s w part : Int32) : Ctr l 5 X sgX8_habit [.ref 27, .int s, .int w, .int part] (mk S M) (rkL S) := let ⟨_, _, _, _, q⟩ := h; R_queryL h (g_habit q.1 s w part)
theorem R_kinds (h : RI M) (s w : Int32) : Ctr l 5 X sgX8_kinds [.ref 27, .int s, .int w] (mk S M) (rkQ S) := let ⟨_, _, _, _, q⟩ := h; R_query h (g_kinds q.1 s w)
theorem R_ask (h : RI M) (what : Int32) : Ctr l 7 X sgX8_ask [.ref 27, .int what] (mk S M) (rkQ S) := let ⟨_, _, _, _, q⟩ := h; R_query h (g_ask q.1 what)
theorem R_two (h : RI M) (what : Int32) : Ctr l 6 X sgX8_two_ [.ref 27, .int what] (mk S M) (rkQ S) := let ⟨_, _, _, _, q⟩ := h; R_query h (g_two q.1 what)
theorem R_parts (h : RI M) (s t what : Int32) : Ctr l 6 X sgX8_parts [.ref 27, .int s, .int t, .int what] (mk S M) (rkL S) := let ⟨_, _, _, _, q⟩ := h; R_queryL h (g_parts q.1 s t what)
theorem R_hide (h : RI M) (s w x : Int32) : Ctr l 6 X sgX8_hide [.ref 27, .int s, .int w, .int x] (mk S M) (rkQ S) := let ⟨_, _, _, _, q⟩ := h; R_query h (g_hide q.1 s w x)
theorem R_same (h : RI M) (t u what : Int32) : Ctr l 6 X sgX8_same [.ref 27, .int t, .int u, .int what] (mk S M) (rkQ S) := let ⟨_, _, _, _, q⟩ := h; R_query h (g_same q.1 t u what)
theorem R_claims (h : RI M) (t : Int32) : Ctr l 6 X sgX8_claims [.ref 27, .int t] (mk S M) (rkQ S) := let ⟨_, _, _, _, q⟩ := h; R_query h (g_claims q.1 t)
theorem R_settle (h : RI M) (what : Int32) : Ctr l 6 X sgX8_settle [.ref 27, .int what] (mk S M) (rkQ S) := let ⟨_, _, _, _, q⟩ := h; R_query h (g_settle q.1 what)
theorem R_thrice (h : RI M) (t u v : Int32) : Ctr l 6 X sgX8_thrice [.ref 27, .int t, .int u, .int v] (mk S M) (rkL S) := let ⟨_, _, _, _, q⟩ := h; R_queryL h (g_thrice q.1 t u v)
theorem R_many (h : RI M) (what : Int32) : Ctr l 6 X sgX8_many [.ref 27, .int what] (mk S M) (rkQ S) := let ⟨_, _, _, _, q⟩ := h; R_query h (g_many q.1 what)
theorem R_drawn (h : RI M) (seed : Int32) : Ctr l 6 X sgX8_drawn [.ref 27, .int seed] (mk S M) (rkQ S) := let ⟨_, _, _, _, q⟩ := h; R_query h (g_drawn q.1 seed)
theorem R_mean (h : RI M) (seed seeds part : Int32) : Ctr l 6 X sgX8_mean [.ref 27, .int seed, .int seeds, .int part] (mk S M) (rkL S) := let ⟨_, _, _, _, q⟩ := h; R_queryL h (g_mean q.1 seed seeds part)
theorem R_told (h : RI M) (s what : Int32) : Ctr l 2 X sgX8_told [.ref 27, .int s, .int what] (mk S M) (rkQ S) := let ⟨_, _, _, _, q⟩ := h; R_ans h (g_told q.1 s what)
theorem R_said (h : RI M) (k what : Int32) : Ctr l 2 X sgX8_said [.ref 27, .int k, .int what] (mk S M) (rkQ S) := let ⟨_, _, _, _, q⟩ := h; R_ans h (g_said q.1 k what)
theorem R_taken (h : RI M) (i k : Int32) : Ctr l 1 X sgX8_taken [.ref 27, .int i, .int k] (mk S M) (rkQ S) := let ⟨_, _, _, _, q⟩ := h; R_ans h (g_taken q.1 i k)
theorem R_count (h : RI M) (v : Int32) : Ctr l 0 X sgX8_count [.ref 27, .int v] (mk S M) (rkQ S) := R_ans h (m_count v)
theorem R_judge (h : RI M) (s w : Int32) : Ctr l 5 X sgX8_judge [.ref 27, .int s, .int w] (mk S M) (rkQ S) := let ⟨_, _, _, _, q⟩ := h; R_query h (g_judge q.1 q.2.2.1 s w)
theorem R_speaker (h : RI M) (k m : Int32) : Ctr l 2 X sgX8_speaker [.ref 27, .int k, .int m] (mk S M) (rkQ S) := let ⟨_, _, _, _, q⟩ := h; R_rs (spG_R q k m) (g_speaker q.1 k m)
theorem R_turn (h : RI M) (s k m : Int32) : Ctr l 2 X sgX8_turn [.ref 27, .int s, .int k, .int m] (mk S M) (rkQ S) := let ⟨_, _, _, _, q⟩ := h; R_rs (trG_R q s k m) (g_turn q.1 s k m)
theorem R_film (h : RI M) (s : Int32) : Ctr l 1 X sgX8_film [.ref 27, .int s] (mk S M) (rkQ S) := let ⟨_, _, _, _, q⟩ := h; R_rs (fiG_R q s) (g_film q.1 s)
theorem R_say (h : RI M) (s t u : Int32) : Ctr l 2 X sgX8_say [.ref 27, .int s, .int t, .int u] (mk S M) (rkQ S) := let ⟨nt, ns, _, ta, q⟩ := h; R_rs (let ⟨k, e, _⟩ := syG_R q s t u; ⟨nt, ns, k, ta, e⟩) (g_say q.1 s t u)
theorem R_feed (h : RI M) (n a b c d e : Int32) : Ctr l 2 X sgX8_feed [.ref 27, .int n, .int a, .int b, .int c, .int d, .int e] (mk S M) (rkQ S) := let ⟨_, _, _, _, q⟩ := h; R_rs (fdG_R q n a b c d e) (g_feed q.1.1 q.2.1.1 q.2.1.2 n a b c d e)
theorem R_image (h : RI M) : Ctr l 0 X sgX8_image [.ref 27] (mk S M) (rkQ S) := let ⟨_, _, _, _, q⟩ := h; R_rs (r := (imM M, M.1 3)) (imM_R q) (g_image q.1.1)
theorem R_back (h : RI M) : Ctr l 0 X sgX8_back [.ref 27] (mk S M) (rkQ S) := let ⟨_, _, _, _, q⟩ := h; R_rs (bkG_R q) (g_back q.1.1)
theorem R_sheet (h : RI M) (s sort n : Int32) : Ctr l 1 X sgX8_sheet [.ref 27, .int s, .int sort, .int n] (mk S M) (fun hp w => (∃ M, RI M ∧ hp = mk S M) ∧ w = some (.int (shtA s sort n))) := by
  obtain ⟨nt, ns, nk, ta, q⟩ := h
  refine (g_sheet q.1.1 s sort n).weak ?_
  rintro hp w ⟨rfl, rfl⟩
  exact ⟨⟨_, shG_R q s sort n, rfl⟩, some_int (shG_ans M s sort n)⟩
theorem R_cell (h : RI M) (s i v : Int32) : Ctr l 2 X sgX8_cell [.ref 27, .int s, .int i, .int v] (mk S M) (rkQ S) := let ⟨_, _, _, _, q⟩ := h; R_rs (ceG_R q s i v) (g_cell q.1.1 q.2.2.1 s i v)
theorem R_copy (h : RI M) (s i o j n : Int32) : Ctr l 2 X sgX8_copy [.ref 27, .int s, .int i, .int o, .int j, .int n] (mk S M) (rkQ S) := let ⟨_, _, _, _, q⟩ := h; R_rs (coG_R q s i o j n) (g_copy q.1.1 q.2.2.1 s i o j n)
theorem R_sayingsBy (h : RI M) (s sort fr n : Int32) : Ctr l 3 X sgX8_sayingsBy [.ref 27, .int s, .int sort, .int fr, .int n] (mk S M) (rkQ S) := let ⟨_, _, _, _, q⟩ := h; R_rs (sbG_R q s sort fr n) (g_sayingsBy q.1 q.2.2.1 s sort fr n)
theorem R_force (h : RI M) (v : Int32) : Ctr l 1 X sgX8_force [.ref 27, .int v] (mk S M) (rkQ S) := by
  refine (m_force v).weak ?_
  rintro hp w ⟨rfl, rfl⟩
  refine ⟨⟨_, ?_, rfl⟩, _, rfl⟩
  by_cases q : frP M v
  · rw [if_pos q]
    obtain ⟨nt, ns, nk, ta, ⟨⟨hM, hO, h9, h0, h3, hr, hk5, htk⟩, hrest⟩⟩ := h
    have q : inP v (Int32.ofInt 0) (M.1 9 - Int32.ofInt 1) := q
    rw [h9.1] at q
    obtain ⟨k, hk, rfl⟩ := inN (by omega) q
    exact ⟨nt, ns, nk, ta, ⟨hM.n 10 _, hO, h9, h0, h3, ⟨k, hk, rfl⟩, hk5, htk⟩, hrest⟩
  · rw [if_neg q]
    exact h
theorem R_unsay (h : RI M) : Ctr l 0 X sgX8_unsay [.ref 27] (mk S M) (rkQ S) := by
  refine m_unsay.weak ?_
  rintro hp w ⟨rfl, rfl⟩
  refine ⟨⟨_, ?_, rfl⟩, _, rfl⟩
  by_cases q : M.1 3 = Int32.ofInt 0
  · rw [if_pos q]
    exact h
  · rw [if_neg q]
    obtain ⟨nt, ns, nk, ta, ⟨⟨hM, hO, h9, h0, h3, hr, hk5, htk⟩, hrest⟩⟩ := h
    have hk : 1 ≤ nk := Nat.pos_of_ne_zero (fun z => q (by rw [h3.1, z]; rfl))
    refine ⟨nt, ns, nk - 1, ta, ⟨hM.n 3 _, hO, h9, h0, ⟨?_, by omega⟩, hr, hk5, fun k hk => htk k (by omega)⟩, hrest⟩
    show M.1 3 - Int32.ofInt 1 = nI (nk - 1)
    rw [h3.1]
    exact nI_m1 hk
end RCALL
