/-! THE CLASS in general: texts, sheets made, images -/
section KCALL2
variable {l : Launch} {X : List (List Int32)} {S : CS} {T : AH} {hp : AH} {nt ns nk ta : Nat}
theorem putF_0 {st : List Int32} {k : Nat} {v : Int32} (hk : k < 100) : (putF st (nI k + 1) v).getD 0 0 = st.getD 0 0 := by
  unfold putF
  split
  · rw [nI_1, nI_clamp (by omega), getD_set_ne (by omega)]
  · rfl
theorem rtP_keep (orf : GF) (tp : List Int32) (t : Nat) : ∀ (m k : Nat) (p : PS) (st : List Int32), m + k ≤ 3 → (rtP orf tp t m k p st).2.2.length = st.length ∧ (rtP orf tp t m k p st).2.2.getD 0 0 = st.getD 0 0
  | 0, _, _, _, _ => ⟨rfl, rfl⟩
  | m + 1, k, p, st, h => by
    rw [rtP]
    split
    · split
      · split
        · have ih := rtP_keep orf tp t m (k + 1) (advP tp t (orf (advP tp t p)).2) (putF st (nI k + 1) (nI (orf (advP tp t p)).2.2.length)) (by omega)
          rw [putF_len, putF_0 (by omega)] at ih
          exact ih
        · exact ⟨putF_len, putF_0 (by omega)⟩
      · exact ⟨rfl, rfl⟩
    · exact ⟨rfl, rfl⟩
theorem txS_K (h : KI S nt ns nk ta) {t : Nat} {r4 r5 : List Int32} {c : List (Int32 × Int32)} (hcr : CR r4 r5 c) : KI (txS S t r4 r5) nt ns nk 0 := by
  obtain ⟨⟨hL, h1⟩, ⟨t4, t5, t6, t60, t7⟩, h3, h4⟩ := h
  have hk := rtP_keep (lvP (S.2 2) t 5).1 (S.2 2) t 3 0 (lexF (S.2 2) t 0, []) (S.2 6) (by decide)
  have hk : (RT S t).2.2.length = (S.2 6).length ∧ (RT S t).2.2.getD 0 0 = (S.2 6).getD 0 0 := hk
  unfold txS
  generalize RT S t = W at hk
  refine ⟨⟨pS_len (n := W.2.1.2.length) (cR6_len hL (by rw [hk.1, t6]; decide)) hcr.1 hcr.2.1, h1⟩, ?_, ⟨rfl, Nat.zero_le _⟩, h4⟩
  exact ⟨hcr.1, hcr.2.1, hk.1.trans t6, hk.2.trans t60, t7⟩
theorem okS_K (h : KI S nt ns nk ta) (hn : nt < 6) {t : Nat} {r4 r5 r7 : List Int32} {m : Int32} {c : List (Int32 × Int32)} (hcr : CR r4 r5 c) (h7 : r7.length = 160) : KI (okS S t r4 r5 r7 m) (nt + 1) ns nk 0 := by
  have q := txS_K h (t := t) hcr
  obtain ⟨⟨hL, c2, c3, c4⟩, ⟨t4, t5, t6, t60, t7⟩, h3, h4⟩ := q
  have h93 : S.1 93 = nI nt := h.1.2.1
  have hL2 : CLen (addX (txS S t r4 r5) (RT S t).2.1.2 5) := addX_len hL 5
  refine ⟨⟨hL2.row 7 r7 (by rw [h7]; decide), ?_, by omega, c4⟩, ⟨t4, t5, t6, t60, h7⟩, h3, h4⟩
  show S.1 93 + 1 = nI (nt + 1)
  rw [h93, nI_1]
theorem K_text (h : KC S) : Ctr l 55 X sgX7_text [.ref 0] (encC S ++ T) (kcQ T) := by
  obtain ⟨nt, ns, nk, ta, q⟩ := id h
  refine (c_text q.1.1 q.2.1 q.2.2.1.1 q.2.2.1.2 q.1.2.1 q.1.2.2.1.2).weak ?_
  rintro hp w ⟨h6, hlt⟩
  have hn6 := q.1.2.2.1.2
  by_cases e : nt = 6
  · obtain ⟨rfl, rfl⟩ := h6 e
    exact lk h
  · obtain ⟨r4, r5, hcr, hf, ht⟩ := hlt (by omega)
    cases hb : (RT S ta).1 with
    | false =>
      obtain ⟨rfl, rfl⟩ := hf hb
      exact ⟨⟨_, ⟨nt, ns, nk, 0, txS_K q hcr⟩, rfl⟩, _, rfl⟩
    | true =>
      obtain ⟨-, r7, m, h7, rfl, rfl⟩ := ht hb
      exact ⟨⟨_, ⟨nt + 1, ns, nk, 0, okS_K q (by omega) hcr h7⟩, rfl⟩, _, rfl⟩
theorem made_K (h : KI S nt ns nk ta) {a b c : List Int32} (ha : a.length ≤ 1000) (hb : b.length ≤ 1000) (hc : c.length ≤ 1000) : KI (cR (cR (cR S 22 a) 23 b) 24 c) nt ns nk ta := (h.rows (by decide) (by decide) ha hb).row (by decide) hc
set_option maxRecDepth 100000 in
theorem K_make (h : KC S) (s sort n : Int32) : Ctr l 1 X sgX3_make [.ref 21, .int s, .int sort, .int n] (encC S ++ T) (fun h w => (∃ S', KC S' ∧ S'.1 134 = S.1 134 ∧ h = encC S' ++ T) ∧ w = none) := by
  obtain ⟨nt, ns, nk, ta, q⟩ := id h
  have hL := h.len
  refine (c_make hL s sort n).weak ?_
  rintro hp w ⟨⟨c, hc, rfl⟩, rfl⟩
  exact ⟨⟨_, ⟨nt, ns, nk, ta, made_K q (by rw [putF_len]; exact hL 22) (by rw [putF_len]; exact hL 23) (by rw [hc]; exact hL 24)⟩, rfl, rfl⟩, rfl⟩
abbrev ksQ (T : AH) (v : Int32) : AH → Option Value → Prop := fun h w => (∃ S, KC S ∧ h = encC S ++ T) ∧ w = some (.int v)
theorem lks (h : KC S) {a b : Int32} (e : a = b) : ksQ T b (encC S ++ T) (some (.int a)) := ⟨⟨S, h, rfl⟩, some_int e⟩
set_option maxRecDepth 100000 in
theorem K_sheet (h : KC S) (s sort n : Int32) : Ctr l 2 X sgX7_sheet [.ref 0, .int s, .int sort, .int n] (encC S ++ T) (ksQ T (shtA s sort n)) := by
  refine Ctr.of okX7_sheet rfl (Nat.le_of_ble_eq_true rfl) (run_sound okX7_sheet noCut 200 ?_)
  refine kH (k_B s 4 3 (by decide)) (by decide) (brB' (fun q => lks h (if_neg (fun z => q z.1)).symm) (fun q => br (fun h1 => lks h (if_neg (fun z => absurd h1 (Int32.not_lt.mpr z.2.1.1))).symm) (fun h1 => br (fun h2 => ?_) (fun h2 => lks h (if_neg (fun z => h2 z.2.1.2)).symm))))
  have q2 : m2P sort := ⟨Int32.not_lt.mp h1, h2⟩
  refine br (fun h3 => ⟨1, _, by decide, K_make h _ _ _, ?_⟩) (fun h3 => br (fun h4 => br (fun h5 => ⟨1, _, by decide, K_make h _ _ _, ?_⟩) (fun h5 => lks h ?_)) (fun h4 => lks h ?_))
  · rintro hp' w ⟨⟨S', hS', -, rfl⟩, rfl⟩
    exact lks hS' ((if_pos ⟨q, q2, Or.inl h3⟩).trans (if_neg (fun z => z.1 h3))).symm
  · rintro hp' w ⟨⟨S', hS', -, rfl⟩, rfl⟩
    exact lks hS' ((if_pos ⟨q, q2, Or.inr h4⟩).trans (if_neg (fun z => absurd z.2 (Int32.not_lt.mpr h5)))).symm
  · exact ((if_pos ⟨q, q2, Or.inr h4⟩).trans (if_pos ⟨h3, Int32.not_le.mp h5⟩)).symm
  · exact (if_neg (fun z => z.2.2.elim h3 h4)).symm
theorem KC.s12 (h : KC S) : ∃ n : Nat, n ≤ 12 ∧ S.1 134 = nI n := let ⟨_, _, nk, _, q⟩ := h; ⟨nk, q.1.2.2.2.2.2.2, q.1.2.2.2.2.2.1⟩
set_option maxRecDepth 100000 in
theorem K_film (h : KC S) (s : Int32) : Ctr l 2 X sgX7_film [.ref 0, .int s] (encC S ++ T) (kcQ T) := by
  obtain ⟨m, hm, em⟩ := h.s12
  refine Ctr.of okX7_film rfl (Nat.le_of_ble_eq_true rfl) (run_sound okX7_film (fun i => Nat.beq i 18) 200 ?_)
  refine kH (k_B s 4 3 (by decide)) (by decide) (brB' (fun q => lk h) (fun q => ⟨1, _, by decide, K_make h _ _ _, ?_⟩))
  rintro hp' w ⟨⟨S', hS', e', rfl⟩, rfl⟩
  have out : ∀ k, k ≤ m → ∀ (S : CS), KC S → S.1 134 = nI m → ∀ x, WP l (rmD 2 0 0) X sgX7_film kX7_film (kcQ T) 18 [some (.ref 0), some (.int s), some (.int (nI k)), x] [] (encC S ++ T) 0 0 := by
    refine down (fun S hS hn x => ?_) (fun k hk ih S hS hn x => ?_)
    · refine run_sound okX7_film (fun i => Nat.beq i 18) 200 (brT ?_ (lk hS))
      show S.1 134 ≤ nI m
      rw [hn]
      exact Int32.le_refl _
    · have inn : ∀ j, j ≤ 3 → ∀ (S : CS), KC S → S.1 134 = nI m → WP l (rmD 2 0 0) X sgX7_film kX7_film (kcQ T) 25 [some (.ref 0), some (.int s), some (.int (nI k)), some (.int (nI j))] [] (encC S ++ T) 0 0 := by
        refine down (fun S hS hn => ?_) (fun j hj ih2 S hS hn => ?_)
        · have ih := ih S hS hn (some (.int (nI 3)))
          rw [← nI_1 k] at ih
          exact run_sound okX7_film (fun i => Nat.beq i 18) 200 (brT (Int32.le_refl _) ih)
        · have ih2 := ih2 (wrS S s (Int32.ofInt 3 * nI k + nI j) (partF S (nI k) (nI j))) (hS.write _ _ _) hn
          rw [← nI_1 j] at ih2
          exact run_sound okX7_film (fun i => Nat.beq i 25) 200 (brF (ge_no (n := 3) rfl hj (by decide)) (kH (c_sayingPart hS.len (nI k) (nI j)) (by decide) (kH (c_write hS.len _ _ _) (by decide) ih2)))
      refine run_sound okX7_film (fun i => Nat.beq i 25) 200 (brF ?_ (inn 0 (Nat.zero_le _) S hS hn))
      show ¬ S.1 134 ≤ nI k
      rw [hn]
      exact nI_ge hk (by omega)
  exact out 0 (Nat.zero_le _) S' hS' (e'.trans em) none
end KCALL2
