/-! THE REFERENCE reads one part of a text: the loop -/
section EREAD2
variable {l : Launch} {X : List (List Int32)} {S : CS} {M : MS}
theorem skR_ge (tp : List Int32) : ∀ m a, a ≤ skR tp m a
  | 0, _ => Nat.le_refl _
  | m + 1, a => by
    unfold skR
    split
    · exact Nat.le_trans (Nat.le_succ a) (skR_ge tp m (a + 1))
    · split
      · exact Nat.le_trans (Nat.le_succ a) (skR_ge tp m (a + 1))
      · exact Nat.le_refl _
theorem skR_le (tp : List Int32) : ∀ m a, skR tp m a ≤ a + m
  | 0, _ => Nat.le_refl _
  | m + 1, a => by
    unfold skR
    split
    · have := skR_le tp m (a + 1); omega
    · split
      · have := skR_le tp m (a + 1); omega
      · omega
theorem dgR_ge (tp : List Int32) : ∀ m a n v, a ≤ (dgR tp m a n v).1
  | 0, _, _, _ => Nat.le_refl _
  | m + 1, a, n, v => by
    unfold dgR
    split
    · exact Nat.le_trans (Nat.le_succ a) (dgR_ge tp m (a + 1) _ _)
    · exact Nat.le_refl _
theorem dgR_le (tp : List Int32) : ∀ m a n v, (dgR tp m a n v).1 ≤ a + m
  | 0, _, _, _ => Nat.le_refl _
  | m + 1, a, n, v => by
    unfold dgR
    split
    · have := dgR_le tp m (a + 1) (n + 1) (if Int32.ofInt 4 ≤ nI n then Int32.ofInt 0 else Int32.ofInt 10 * v + tp.getD a 0 - Int32.ofInt 48); omega
    · exact Nat.le_add_right _ _
/-- a token that is one has been passed -/
theorem nxt_spec (ws tp : List Int32) {t a : Nat} (ha : a ≤ t) : (nxtF ws tp t a).2.1 ≤ t ∧ a ≤ (nxtF ws tp t a).2.1 ∧ (nxtF ws tp t a).1 ≤ t ∧ ((nxtF ws tp t a).2.2.1 = Int32.ofInt 0 ∨ a < (nxtF ws tp t a).2.1) := by
  have h1 := skR_ge tp (t - a) a
  have h2 := skR_le tp (t - a) a
  unfold nxtF
  revert h1 h2
  generalize skR tp (t - a) a = b
  intro h1 h2
  unfold nextT
  split
  · exact ⟨by show b ≤ t; omega, h1, by show b ≤ t; omega, Or.inl rfl⟩
  · rename_i hb
    obtain ⟨m, hm⟩ : ∃ m, t - b = m + 1 := ⟨t - b - 1, by omega⟩
    split
    · rename_i hL
      have h3 : b + 1 ≤ runW tp (t - b) b := by
        rw [hm, runW, if_pos hL]; exact runW_ge tp m (b + 1)
      have h4 := runW_le tp (t - b) b
      exact ⟨by show runW tp (t - b) b ≤ t; omega, by show a ≤ runW tp (t - b) b; omega, by show b ≤ t; omega, Or.inr (by show a < runW tp (t - b) b; omega)⟩
    · split
      · rename_i hD
        have h3 : b + 1 ≤ (dgR tp (t - b) b 0 (Int32.ofInt 0)).1 := by
          rw [hm, dgR, if_pos hD]; exact dgR_ge tp m (b + 1) _ _
        have h4 := dgR_le tp (t - b) b 0 (Int32.ofInt 0)
        exact ⟨by show (dgR tp (t - b) b 0 (Int32.ofInt 0)).1 ≤ t; omega, by show a ≤ (dgR tp (t - b) b 0 (Int32.ofInt 0)).1; omega, by show b ≤ t; omega, Or.inr (by show a < (dgR tp (t - b) b 0 (Int32.ofInt 0)).1; omega)⟩
      · exact ⟨by show b + 1 ≤ t; omega, by show a ≤ b + 1; omega, by show b ≤ t; omega, Or.inr (by show a < b + 1; omega)⟩
abbrev esP : ES → PT
  | .inl (_, q) => q
  | .inr (_, _, q) => q
abbrev ptL (p : PT) : Nat := p.1.length + p.2.2.length
theorem onS_len (wa br : Bool) (s : Int32) (p : PT) : ptL (esP (onS wa br s p)) ≤ ptL p + 1 := by
  unfold onS onF
  split <;> split <;> simp_all [ptL, esP] <;> omega
theorem stW_len (br : Bool) (tk : Int32) (p : PT) : ptL (esP (stW br tk p)) ≤ ptL p + 1 := by
  unfold stW
  split
  · exact onS_len _ _ _ _
  · split
    · exact onS_len _ _ _ _
    · exact Nat.le_succ _
theorem btS_len (s : Int32) (p : PT) : ptL (esP (btS s p)) ≤ ptL p + 1 := by
  have h := stF_len s p
  unfold btS
  split
  · show ptL (btF s p).2 ≤ _
    unfold btF
    split
    · split
      · show (stF s p).1.length + (stF s p).2.2.length ≤ _
        simp only [ptL]; omega
      · show (stF s p).1.length + 1 + (stF s p).2.2.length ≤ _
        simp only [ptL]; omega
    · show (stF s p).1.length + 1 + (stF s p).2.2.length ≤ _
      simp only [ptL]; omega
  · show ptL (btF s p).2 ≤ _
    unfold btF
    split
    · split
      · show (stF s p).1.length + (stF s p).2.2.length ≤ _
        simp only [ptL]; omega
      · show (stF s p).1.length + 1 + (stF s p).2.2.length ≤ _
        simp only [ptL]; omega
    · show (stF s p).1.length + 1 + (stF s p).2.2.length ≤ _
      simp only [ptL]; omega
theorem clS2_len (br : Bool) (p : PT) : ptL (esP (clS2 br p)) ≤ ptL p := by
  obtain ⟨zh, zo, zc⟩ := p
  cases zh with
  | nil => exact Nat.le_refl _
  | cons t zh =>
    show (unwF (Int32.ofInt 7) zh (zo - Int32.ofInt 1) zc).1.length + (unwF (Int32.ofInt 7) zh (zo - Int32.ofInt 1) zc).2.2.length ≤ zh.length + 1 + zc.length
    rw [unwF_len]; omega
theorem stE_len (wa br : Bool) (tk v : Int32) (p : PT) : ptL (esP (stE wa br tk v p)) ≤ ptL p + 1 := by
  have hu : ∀ r w, ptL (unwF r p.1 p.2.1 (p.2.2 ++ [w])) ≤ ptL p + 1 := by
    intro r w
    show (unwF r p.1 p.2.1 (p.2.2 ++ [w])).1.length + (unwF r p.1 p.2.1 (p.2.2 ++ [w])).2.2.length ≤ _
    rw [unwF_len]
    simp only [List.length_append, List.length_cons, List.length_nil, ptL]
    omega
  have hu0 : ∀ r, ptL (unwF r p.1 p.2.1 p.2.2) = ptL p := fun r => unwF_len r p.1 p.2.1 p.2.2
  unfold stE
  split
  · split
    · exact hu _ _
    · split
      · exact hu _ _
      · split
        · split
          · exact onS_len _ _ _ _
          · exact stW_len _ _ _
        · exact stW_len _ _ _
  · split
    · show ptL (unwF (Int32.ofInt 1) p.1 p.2.1 p.2.2) ≤ _
      rw [hu0]; omega
    · split
      · have := clS2_len br (unwF (Int32.ofInt 1) p.1 p.2.1 p.2.2)
        rw [hu0] at this
        omega
      · split
        · exact Nat.le_succ _
        · exact btS_len _ _
theorem stE_0 (wa br : Bool) (v : Int32) (p : PT) : stE wa br (Int32.ofInt 0) v p = .inl (false, p) := by
  cases wa <;> rfl
/-- a part, by at most m tokens: whether it is one, the last token, what is held -/
def erF (ws tp : List Int32) (t : Nat) : Nat → Bool → Bool → Nat → PT → Bool × (Nat × Nat × Int32 × Int32) × PT
  | 0, _, _, a, p => (false, (a, a, 0, 0), p)
  | m + 1, wa, br, a, p => match stE wa br (nxtF ws tp t a).2.2.1 (nxtF ws tp t a).2.2.2 p with
    | .inl (b, q) => (b, nxtF ws tp t a, q)
    | .inr (wa', br', q) => erF ws tp t m wa' br' (nxtF ws tp t a).2.1 q
abbrev xM (M : MS) (a b tk v : Int32) : MS := mN (mN (mN (mN M 21 a) 22 b) 23 tk) 24 v
abbrev erQ (S : CS) (M : MS) (cd0 : List Int32) (tx : Nat) (E : Bool × (Nat × Nat × Int32 × Int32) × PT) : AH → Option Value → Prop := fun h w => InP S (xM M (nI E.2.1.2.1) (nI E.2.1.1) E.2.1.2.2.1 E.2.1.2.2.2) cd0 tx E.2.2 h ∧ w = some (.int (bB E.1))
set_option maxRecDepth 100000 in
set_option maxHeartbeats 4000000 in
theorem er_loop (hM : MLen M) {t tx : Nat} (ht : M.1 6 = nI t) (ht2 : t ≤ 160) (htx : M.1 9 = nI tx) (htx6 : tx < 6) (cd0 : List Int32) : ∀ (m : Nat) (wa br : Bool) (a : Nat) (b tk v : Int32) (p : PT) (h : AH) (x : Option Value), a ≤ t → t - a < m → ptL p ≤ a → InP S (xM M (nI a) b tk v) cd0 tx p h →
    WP l (rmD 3 0 0) X sgX8_eRead kX8_eRead (erQ S M cd0 tx (erF (M.2.1 25) (M.2.1 5) t m wa br a p)) 10 [some (.ref 27), some (.int (bB wa)), some (.int (bB br)), x] [] h 0 0 := by
  intro m
  induction m with
  | zero => intro _ _ _ _ _ _ _ _ _ _ z; exact absurd z (Nat.not_lt_zero _)
  | succ m ih =>
    intro wa br a b tk v p h x hat hm hp hin
    obtain ⟨cd, hd, ho, hs, rfl⟩ := hin
    have hsp := nxt_spec (M.2.1 25) (M.2.1 5) hat
    refine run_sound okX8_eRead (fun i => Nat.beq i 12) 300 (kH (m_next (M := pM (xM M (nI a) b tk v) cd hd (nI p.1.length) p.2.1 (nI p.2.2.length)) (MLen.p (M := xM M (nI a) b tk v) (hm := nI p.1.length) (op := p.2.1) (ou := nI p.2.2.length) hM ho.1 hs.1) ht ht2 rfl hat) (by decide) ?_)
    have hE : erF (M.2.1 25) (M.2.1 5) t (m + 1) wa br a p = match stE wa br (nxtF (M.2.1 25) (M.2.1 5) t a).2.2.1 (nxtF (M.2.1 25) (M.2.1 5) t a).2.2.2 p with
      | .inl (b, q) => (b, nxtF (M.2.1 25) (M.2.1 5) t a, q)
      | .inr (wa', br', q) => erF (M.2.1 25) (M.2.1 5) t m wa' br' (nxtF (M.2.1 25) (M.2.1 5) t a).2.1 q := rfl
    have hl := stE_len wa br (nxtF (M.2.1 25) (M.2.1 5) t a).2.2.1 (nxtF (M.2.1 25) (M.2.1 5) t a).2.2.2 p
    refine er_step (N := xM M (nI (nxtF (M.2.1 25) (M.2.1 5) t a).2.1) (nI (nxtF (M.2.1 25) (M.2.1 5) t a).1) (nxtF (M.2.1 25) (M.2.1 5) t a).2.2.1 (nxtF (M.2.1 25) (M.2.1 5) t a).2.2.2) hM htx htx6 (p := p) (by show ptL p < 199; omega) ho hs ?_ ?_
    · intro b' q h' he hq
      have he : stE wa br (nxtF (M.2.1 25) (M.2.1 5) t a).2.2.1 (nxtF (M.2.1 25) (M.2.1 5) t a).2.2.2 p = .inl (b', q) := he
      rw [he] at hE
      rw [hE]
      exact ⟨hq, rfl⟩
    · intro wa' br' q h' x' he hq
      have he : stE wa br (nxtF (M.2.1 25) (M.2.1 5) t a).2.2.1 (nxtF (M.2.1 25) (M.2.1 5) t a).2.2.2 p = .inr (wa', br', q) := he
      have hlt : a < (nxtF (M.2.1 25) (M.2.1 5) t a).2.1 := by
        rcases hsp.2.2.2 with z | z
        · rw [z, stE_0] at he
          cases he
        · exact z
      rw [he] at hE hl
      rw [hE]
      exact ih wa' br' _ _ _ _ q h' x' hsp.1 (by omega) (by have : ptL q ≤ ptL p + 1 := hl; omega) hq
end EREAD2
