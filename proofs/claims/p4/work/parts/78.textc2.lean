/-! THE CLASS's text, whole -/
section TEXTC2
variable {l : Launch} {X : List (List Int32)} {S : CS} {T : AH} {t : Nat}
/-- the code only grows -/
def Gr (f : GF) : Prop := ∀ p : PS, p.2.length ≤ (f p).2.2.length
theorem addP_gr (s v : Int32) (p : PS) : p.2.length ≤ (addP s v p).2.length := by
  unfold addP
  show p.2.length ≤ (if p.2.length < 160 then p.2 ++ [(s, v)] else p.2).length
  split
  · simp
  · exact Nat.le_refl _
theorem loopP_gr {sub : GF} {tp : List Int32} {ops : Int32 → Bool} (h : Gr sub) : ∀ m, Gr (loopP sub tp t ops m)
  | 0, p => Nat.le_refl _
  | m + 1, p => by
    have h1 : p.2.length ≤ (sub (advP tp t p)).2.2.length := h (advP tp t p)
    rw [loopP]
    split
    · split
      · exact Nat.le_trans (Nat.le_trans h1 (addP_gr _ _ _)) (loopP_gr h m _)
      · exact h1
    · exact Nat.le_refl _
theorem binP_gr {sub : GF} {tp : List Int32} {ops : Int32 → Bool} (h : Gr sub) : Gr (binP sub tp t ops) := by
  intro p
  unfold binP
  split
  · exact Nat.le_trans (h p) (loopP_gr h 160 _)
  · exact h p
theorem cmpP_gr {sub : GF} {tp : List Int32} (h : Gr sub) : Gr (cmpP sub tp t) := by
  intro p
  have h1 : (sub p).2.2.length ≤ (sub (advP tp t (sub p).2)).2.2.length := h (advP tp t (sub p).2)
  unfold cmpP
  split
  · split
    · split
      · exact Nat.le_trans (h p) (Nat.le_trans h1 (addP_gr _ _ _))
      · exact Nat.le_trans (h p) h1
    · exact h p
  · exact h p
theorem notP_gr {cmp : GF} {prev : Option GF} {tp : List Int32} (h : Gr cmp) (hp : ∀ f, prev = some f → Gr f) : Gr (notP cmp prev tp t) := by
  intro p
  unfold notP
  split
  · cases prev with
    | none => exact Nat.le_refl _
    | some f =>
      have h1 : p.2.length ≤ (f (advP tp t p)).2.2.length := hp f rfl (advP tp t p)
      show p.2.length ≤ (if (f (advP tp t p)).1 = true then _ else _ : Bool × PS).2.2.length
      split
      · exact Nat.le_trans h1 (addP_gr _ _ _)
      · exact h1
  · exact h p
theorem bktP_gr {orf : GF} {tp : List Int32} (h : Gr orf) : Gr (bktP orf tp t) := by
  intro p
  unfold bktP
  split
  · split <;> exact h p
  · exact h p
theorem oneP_gr {prev : Option (GF × GF)} {tp : List Int32} (hp : ∀ f, prev = some f → Gr f.1 ∧ Gr f.2) : Gr (oneP prev tp t) := by
  intro p
  unfold oneP
  split
  · exact addP_gr _ _ _
  · split
    · cases prev with
      | none => exact Nat.le_refl _
      | some f =>
        obtain ⟨g1, g2⟩ := hp f rfl
        show p.2.length ≤ (if srt p = 40 then bktP f.1 tp t (advP tp t p) else if (f.2 (advP tp t p)).1 = true then (true, addP 10 0 (f.2 (advP tp t p)).2) else (false, (f.2 (advP tp t p)).2) : Bool × PS).2.2.length
        split
        · exact bktP_gr g1 (advP tp t p)
        · have h1 : p.2.length ≤ (f.2 (advP tp t p)).2.2.length := g2 (advP tp t p)
          split
          · exact Nat.le_trans h1 (addP_gr _ _ _)
          · exact h1
    · exact Nat.le_refl _
theorem mkLv_gr {tp : List Int32} {prev : Option (GF × GF × GF)} (hp : ∀ f, prev = some f → Gr f.1 ∧ Gr f.2.1 ∧ Gr f.2.2) : Gr (mkLv tp t prev).1 ∧ Gr (mkLv tp t prev).2.1 ∧ Gr (mkLv tp t prev).2.2 := by
  have g1 : Gr (oneP (prev.map (fun f => (f.1, f.2.2))) tp t) := oneP_gr (fun f hf => by
    cases prev with
    | none => cases hf
    | some g => cases hf; exact ⟨(hp g rfl).1, (hp g rfl).2.2⟩)
  have g2 : Gr (mkLv tp t prev).2.1 := notP_gr (cmpP_gr (binP_gr (binP_gr g1))) (fun f hf => by
    cases prev with
    | none => cases hf
    | some g => cases hf; exact (hp g rfl).2.1)
  exact ⟨binP_gr (binP_gr g2), g2, g1⟩
theorem lvP_gr (tp : List Int32) : ∀ n, Gr (lvP tp t n).1 ∧ Gr (lvP tp t n).2.1 ∧ Gr (lvP tp t n).2.2
  | 0 => mkLv_gr (fun f hf => by cases hf)
  | n + 1 => mkLv_gr (fun f hf => by cases hf; exact lvP_gr tp n)
/-- a text that is read begins and ends its parts -/
theorem rtP_st {orf : GF} {tp : List Int32} (hg : Gr orf) {p : PS} {st : List Int32} (h4 : st.length = 4) (h0 : st.getD 0 0 = 0) (hr : (rtP orf tp t 3 0 p st).1 = true) : StOk (rtP orf tp t 3 0 p st).2.1.2 (rtP orf tp t 3 0 p st).2.2 := by
  have hadv : ∀ q : PS, (advP tp t q).2 = q.2 := fun _ => rfl
  match st, h4 with
  | [s0, s1, s2, s3], _ =>
    have h0 : s0 = 0 := h0
    subst h0
    rw [rtP] at hr ⊢
    by_cases q1 : srt p = 4 + nI 0
    · rw [if_pos q1] at hr ⊢
      by_cases q2 : (orf (advP tp t p)).1 = true
      · rw [if_pos q2] at hr ⊢
        by_cases q3 : srt (orf (advP tp t p)).2 = 59
        · rw [if_pos q3] at hr ⊢
          generalize orf (advP tp t p) = r1 at hr ⊢
          rw [rtP] at hr ⊢
          by_cases q4 : srt (advP tp t r1.2) = 4 + nI 1
          · rw [if_pos q4] at hr ⊢
            have g1 : r1.2.2.length ≤ (orf (advP tp t (advP tp t r1.2))).2.2.length := hg (advP tp t (advP tp t r1.2))
            by_cases q5 : (orf (advP tp t (advP tp t r1.2))).1 = true
            · rw [if_pos q5] at hr ⊢
              by_cases q6 : srt (orf (advP tp t (advP tp t r1.2))).2 = 59
              · rw [if_pos q6] at hr ⊢
                generalize orf (advP tp t (advP tp t r1.2)) = r2 at hr g1 ⊢
                rw [rtP] at hr ⊢
                by_cases q7 : srt (advP tp t r2.2) = 4 + nI 2
                · rw [if_pos q7] at hr ⊢
                  have g2 : r2.2.2.length ≤ (orf (advP tp t (advP tp t r2.2))).2.2.length := hg (advP tp t (advP tp t r2.2))
                  by_cases q8 : (orf (advP tp t (advP tp t r2.2))).1 = true
                  · rw [if_pos q8] at hr ⊢
                    by_cases q9 : srt (orf (advP tp t (advP tp t r2.2))).2 = 59
                    · rw [if_pos q9]
                      generalize orf (advP tp t (advP tp t r2.2)) = r3 at g2 ⊢
                      exact ⟨rfl, r1.2.2.length, r2.2.2.length, r3.2.2.length, rfl, g1, g2, Nat.le_refl _⟩
                    · rw [if_neg q9] at hr
                      cases hr
                  · rw [if_neg q8] at hr
                    cases hr
                · rw [if_neg q7] at hr
                  cases hr
              · rw [if_neg q6] at hr
                cases hr
            · rw [if_neg q5] at hr
              cases hr
          · rw [if_neg q4] at hr
            cases hr
        · rw [if_neg q3] at hr
          cases hr
      · rw [if_neg q2] at hr
        cases hr
    · rw [if_neg q1] at hr
      cases hr
abbrev RT (S : CS) (t : Nat) : Bool × PS × List Int32 := rtP (lvP (S.2 2) t 5).1 (S.2 2) t 3 0 (lexF (S.2 2) t 0, []) (S.2 6)
/-- after a text that is read: tokens, code, the tape empty -/
def txS (S : CS) (t : Nat) (r4 r5 : List Int32) : CS := cN (pS (cR S 6 (RT S t).2.2) (RT S t).2.1.1 r4 r5 (RT S t).2.1.2.length) 11 0
def okS (S : CS) (t : Nat) (r4 r5 r7 : List Int32) (m : Int32) : CS := cN (cN (cR (addX (txS S t r4 r5) (RT S t).2.1.2 5) 7 r7) 35 m) 93 (S.1 93 + 1)
def TxInv (S : CS) : Prop := (S.2 4).length = 160 ∧ (S.2 5).length = 160 ∧ (S.2 6).length = 4 ∧ (S.2 6).getD 0 0 = 0 ∧ (S.2 7).length = 160
set_option maxRecDepth 100000 in
set_option maxHeartbeats 4000000 in
theorem c_text (hL : CLen S) (hi : TxInv S) {t n : Nat} (ht : S.1 11 = nI t) (ht2 : t ≤ 160) (hn : S.1 93 = nI n) (hn6 : n ≤ 6) : Ctr l 55 X sgX7_text [.ref 0] (encC S ++ T) (fun h w =>
    (n = 6 → h = encC S ++ T ∧ w = some (.int (-4))) ∧
    (n < 6 → ∃ r4 r5, CR r4 r5 (RT S t).2.1.2 ∧
      ((RT S t).1 = false → h = encC (txS S t r4 r5) ++ T ∧ w = some (.int (-100 - nI (RT S t).2.1.1.1))) ∧
      ((RT S t).1 = true → StOk (RT S t).2.1.2 (RT S t).2.2 ∧ ∃ r7 m, r7.length = 160 ∧ h = encC (okS S t r4 r5 r7 m) ++ T ∧ w = some (.int (nI n))))) := by
  obtain ⟨i4, i5, i6, i60, i7⟩ := hi
  refine Ctr.of okX7_text rfl (Nat.le_of_ble_eq_true rfl) (run_sound okX7_text noCut 200 ?_)
  by_cases e6 : n = 6
  · refine brF ?_ ⟨fun _ => ⟨rfl, rfl⟩, fun z => absurd z (by omega)⟩
    show ¬ S.1 93 < 6
    rw [hn, e6]
    decide
  · have hlt : S.1 93 < 6 := by rw [hn]; exact nI_lt (b := 6) (by omega) (by decide)
    refine brT hlt ⟨54, _, by decide, c_readText hL ht ht2 i4 i5, ?_⟩
    have hst := rtP_st (t := t) (tp := S.2 2) (lvP_gr (t := t) (S.2 2) 5).1 (p := (lexF (S.2 2) t 0, [])) i6 i60
    obtain ⟨W, hW⟩ : ∃ W, RT S t = W := ⟨_, rfl⟩
    have hst : W.1 = true → StOk W.2.1.2 W.2.2 := by rw [← hW]; exact hst
    have hW' : rtP (lvP (S.2 2) t 5).1 (S.2 2) t 3 0 (lexF (S.2 2) t 0, []) (S.2 6) = W := hW
    rw [hW']
    unfold txS okS
    unfold txS
    rw [hW]
    rintro h' w' ⟨⟨hle, r4, r5, hcr, rfl⟩, rfl⟩
    refine And.intro trivial (brBB (fun z => ?_) (fun z => ?_))
    · refine ⟨fun y => absurd y e6, fun _ => ⟨r4, r5, hcr, fun _ => ⟨rfl, rfl⟩, fun y => ?_⟩⟩
      rw [z] at y
      cases y
    · have hs := hst z
      have hL6 : CLen (cR S 6 W.2.2) := cR6_len hL (by rw [hs.1]; decide)
      obtain ⟨S2, hS2⟩ : ∃ S2, S2 = cN (pS (cR S 6 W.2.2) W.2.1.1 r4 r5 W.2.1.2.length) 11 0 := ⟨_, rfl⟩
      have hLS2 : CLen S2 := by subst hS2; exact pS_len (n := W.2.1.2.length) (k := W.2.1.1) hL6 hcr.1 hcr.2.1
      have hin : InW S2 T (encC S2 ++ T) := by subst hS2; exact ⟨S.2 7, S.1 35, i7, rfl⟩
      have hc := c_addText (l := l) (X := X) hLS2 (c := W.2.1.2) (by subst hS2; exact hcr) (by subst hS2; exact hs) (by subst hS2; exact hlt) hin
      rw [hS2] at hc
      refine ⟨5, _, by decide, hc, ?_⟩
      rintro h' w' ⟨⟨r7, m, h7, rfl⟩, rfl⟩
      refine ⟨fun y => absurd y e6, fun _ => ⟨r4, r5, hcr, fun y => ?_, fun _ => ⟨hs, r7, m, h7, rfl, some_int ?_⟩⟩⟩
      · rw [z] at y
        cases y
      · show S.1 93 + 1 - Int32.ofInt 1 = nI n
        rw [hn, nI_1]
        exact nI_pred n
end TEXTC2
