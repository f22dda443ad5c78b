/-! THE CLASS's text: read, and kept -/
section TEXTC
variable {l : Launch} {X : List (List Int32)} {S : CS} {T : AH} {t : Nat}
/-- a row of what all say, written for one more text -/
def adR (f : Int32 → Int32) (xs : List Int32) (n : Int32) : Nat → List Int32
  | 0 => xs
  | k + 1 => putF (adR f xs n k) (n * 5 + nI k) (f (nI k))
theorem adR_len {f : Int32 → Int32} {xs : List Int32} {n : Int32} : ∀ k, (adR f xs n k).length = xs.length
  | 0 => rfl
  | k + 1 => by rw [adR, putF_len, adR_len k]
/-- a text's parts -/
def prts (c : List (Int32 × Int32)) (st : List Int32) (p : Nat) : List (Int32 × Int32) := segC c (st.getD p 0).toNatClampNeg (st.getD (p + 1) 0).toNatClampNeg
def onR (c : List (Int32 × Int32)) (st : List Int32) (p : Nat) (who : Int32) : Int32 := trC who (prts c st p) 32
def coR (c : List (Int32 × Int32)) (st : List Int32) (who : Int32) : Int32 := maxF 0 (minF 99 (valC 0 who (prts c st 2)))
/-- the three parts begin and end in the code -/
def StOk (c : List (Int32 × Int32)) (st : List Int32) : Prop := st.length = 4 ∧ ∃ a b e : Nat, st = [0, nI a, nI b, nI e] ∧ a ≤ b ∧ b ≤ e ∧ e ≤ c.length
def addX (S : CS) (c : List (Int32 × Int32)) (k : Nat) : CS := cR (cR (cR S 10 (adR (onR c (S.2 6) 0) (S.2 10) (S.1 93) k)) 11 (adR (onR c (S.2 6) 1) (S.2 11) (S.1 93) k)) 12 (adR (coR c (S.2 6)) (S.2 12) (S.1 93) k)
theorem addX_len {c : List (Int32 × Int32)} (hL : CLen S) (k : Nat) : CLen (addX S c k) := by
  intro j
  show (uf (uf (uf S.2 10 _) 11 _) 12 _ j).length ≤ 1000
  unfold uf
  split
  · rw [adR_len]; exact hL 12
  · split
    · rw [adR_len]; exact hL 11
    · split
      · rw [adR_len]; exact hL 10
      · exact hL j
set_option maxRecDepth 100000 in
set_option maxHeartbeats 4000000 in
theorem c_addText (hL : CLen S) {c : List (Int32 × Int32)} (hcr : CR (S.2 4) (S.2 5) c) (hst : StOk c (S.2 6)) (hn : S.1 93 < 6) {h : AH} (hin : InW S T h) :
    Ctr l 5 X sgX5_add [.ref 9, .ref 3] h (fun h x => InW (cN (addX S c 5) 93 (S.1 93 + 1)) T h ∧ x = none) := by
  have hl : ∀ k, (S.2 k).length < 2 ^ 31 := fun k => Nat.lt_of_le_of_lt (hL k) (by decide)
  obtain ⟨h4, a, b, e, hs, hab, hbe, hec⟩ := hst
  have hc160 : c.length ≤ 160 := hcr.2.2.1
  have g0 : (S.2 6).getD 0 0 = nI 0 := by rw [hs]; rfl
  have g1 : (S.2 6).getD 1 0 = nI a := by rw [hs]; rfl
  have g2 : (S.2 6).getD 2 0 = nI b := by rw [hs]; rfl
  have g3 : (S.2 6).getD 3 0 = nI e := by rw [hs]; rfl
  have p0 : prts c (S.2 6) 0 = segC c 0 a := by unfold prts; rw [g0, g1, nI_clamp (by omega), nI_clamp (by omega)]
  have p1 : prts c (S.2 6) 1 = segC c a b := by unfold prts; rw [g1, g2, nI_clamp (by omega), nI_clamp (by omega)]
  have p2 : prts c (S.2 6) 2 = segC c b e := by unfold prts; rw [g2, g3, nI_clamp (by omega), nI_clamp (by omega)]
  have q0 : atF (S.2 6) 0 = nI 0 := by rw [hs]; rfl
  have q1 : atF (S.2 6) (0 + 1) = nI a := by rw [hs]; rfl
  have q1' : atF (S.2 6) 1 = nI a := by rw [hs]; rfl
  have q2 : atF (S.2 6) (1 + 1) = nI b := by rw [hs]; rfl
  have q2' : atF (S.2 6) 2 = nI b := by rw [hs]; rfl
  have q3 : atF (S.2 6) (2 + 1) = nI e := by rw [hs]; rfl
  have key : ∀ j, j ≤ 5 → ∀ (h : AH) x3, InW (addX S c j) T h → WP l (rmD 5 0 0) X sgX5_add kX5_add (fun h x => InW (cN (addX S c 5) 93 (S.1 93 + 1)) T h ∧ x = none) 7 [some (.ref 9), some (.ref 3), some (.int (nI j)), x3] [] h 0 0 := by
    refine down (fun h x3 hin => ?_) (fun j hj ih h x3 hin => ?_)
    · obtain ⟨r7, m7, h7, rfl⟩ := hin
      exact run_sound okX5_add (fun i => Nat.beq i 7) 100 (brT (Int32.le_refl _) (And.intro rfl (And.intro trivial ⟨rfl, ⟨r7, m7, h7, rfl⟩, rfl⟩)))
    · have hl' := addX_len (c := c) hL j
      have hx : ∀ k, ((addX S c j).2 k).length < 2 ^ 31 := fun k => Nat.lt_of_le_of_lt (hl' k) (by decide)
      obtain ⟨r7, m7, h7, rfl⟩ := id hin
      have t1 := c_truths (l := l) (X := X) (T := T) (S := addX S c j) hcr (hl 6) q0 q1 (Nat.zero_le _) (by omega) (nI j) hin
      refine run_sound okX5_add (fun i => Nat.beq i 7) 100 (brF (ge_no (n := 5) rfl hj (by decide)) ⟨4, _, by decide, t1, ?_⟩)
      rintro h' w' ⟨hin1, rfl⟩
      obtain ⟨r71, m71, h71, rfl⟩ := id hin1
      refine kH (c_put (xs := (addX S c j).2 10) rfl rfl (hx 10)) (by decide) ?_
      obtain ⟨S1, hS1⟩ : ∃ S1, S1 = cR (addX S c j) 10 (putF ((addX S c j).2 10) ((addX S c j).1 93 * Int32.ofInt 5 + nI j) (trC (nI j) (segC c 0 a) 32)) := ⟨_, rfl⟩
      have hin2 : InW S1 T (encC (cN (cR S1 7 r71) 35 m71) ++ T) := ⟨r71, m71, h71, rfl⟩
      have t2 := c_truths (l := l) (X := X) (T := T) (S := S1) (c := c) (by subst hS1; exact hcr) (by subst hS1; exact hl 6) (part := 1) (a := a) (b := b) (by subst hS1; exact q1') (by subst hS1; exact q2) hab (by omega) (nI j) hin2
      rw [hS1] at t2
      refine ⟨4, _, by decide, t2, ?_⟩
      rintro h' w' ⟨hin3, rfl⟩
      obtain ⟨r72, m72, h72, rfl⟩ := id hin3
      refine kH (c_put (xs := (addX S c j).2 11) rfl rfl (hx 11)) (by decide) ?_
      obtain ⟨S2, hS2⟩ : ∃ S2, S2 = cR (cR (addX S c j) 10 (putF ((addX S c j).2 10) ((addX S c j).1 93 * Int32.ofInt 5 + nI j) (trC (nI j) (segC c 0 a) 32))) 11 (putF ((addX S c j).2 11) ((addX S c j).1 93 * Int32.ofInt 5 + nI j) (trC (nI j) (segC c a b) 32)) := ⟨_, rfl⟩
      have hin4 : InW S2 T (encC (cN (cR S2 7 r72) 35 m72) ++ T) := ⟨r72, m72, h72, rfl⟩
      have t3 := c_valueOf (l := l) (X := X) (T := T) (S := S2) (c := c) (by subst hS2; exact hcr) (by subst hS2; exact hl 6) (part := 2) (a := b) (b := e) (by subst hS2; exact q2') (by subst hS2; exact q3) hbe hec 0 (nI j) hin4
      rw [hS2] at t3
      refine ⟨3, _, by decide, t3, ?_⟩
      rintro h' w' ⟨hin5, rfl⟩
      obtain ⟨r73, m73, h73, rfl⟩ := id hin5
      refine And.intro ⟨rfl, by decide, by decide⟩ (And.intro ⟨rfl, by decide, by decide⟩ (kH (c_put (xs := (addX S c j).2 12) rfl rfl (hx 12)) (by decide) ?_))
      have ih := ih (encC (cN (cR (addX S c (j + 1)) 7 r73) 35 m73) ++ T) (some (.int ((addX S c j).1 93 * Int32.ofInt 5 + nI j))) ⟨r73, m73, h73, rfl⟩
      have w0 : onR c (S.2 6) 0 (nI j) = trC (nI j) (segC c 0 a) 32 := by unfold onR; rw [p0]
      have w1 : onR c (S.2 6) 1 (nI j) = trC (nI j) (segC c a b) 32 := by unfold onR; rw [p1]
      have w2 : coR c (S.2 6) (nI j) = maxF 0 (minF 99 (valC 0 (nI j) (segC c b e))) := by unfold coR; rw [p2]
      have ex : addX S c (j + 1) = cR (cR (cR S 10 (putF (adR (onR c (S.2 6) 0) (S.2 10) (S.1 93) j) (S.1 93 * 5 + nI j) (trC (nI j) (segC c 0 a) 32))) 11 (putF (adR (onR c (S.2 6) 1) (S.2 11) (S.1 93) j) (S.1 93 * 5 + nI j) (trC (nI j) (segC c a b) 32))) 12 (putF (adR (coR c (S.2 6)) (S.2 12) (S.1 93) j) (S.1 93 * 5 + nI j) (maxF 0 (minF 99 (valC 0 (nI j) (segC c b e))))) := by
        unfold addX
        rw [adR, adR, adR, w0, w1, w2]
      rw [ex, ← nI_1 j] at ih
      exact ih
  obtain ⟨r7, m7, h7, rfl⟩ := id hin
  refine Ctr.of okX5_add rfl (Nat.le_of_ble_eq_true rfl) (run_sound okX5_add (fun i => Nat.beq i 7) 100 (brT hn (key 0 (Nat.zero_le _) _ none hin)))
def tokP (s : Int32) (tp : List Int32) (t : Nat) : GF := fun p => if srt p = s then (true, advP tp t p) else (false, p)
set_option maxRecDepth 100000 in
theorem c_readToken (hL : CLen S) (ht : S.1 11 = nI t) (ht2 : t ≤ 160) (s : Int32) {p : PS} {h : AH} (hin : InC S T t p h) : Ctr l 7 X sgX1_readToken [.ref 8, .int s] h (GP S T t (tokP s (S.2 2) t p)) := by
  obtain ⟨hle, r4, r5, hcr, rfl⟩ := id hin
  refine Ctr.of okX1_readToken rfl (Nat.le_of_ble_eq_true rfl) (run_sound okX1_readToken noCut 100 ?_)
  by_cases q : srt p = s
  · rw [show tokP s (S.2 2) t p = (true, advP (S.2 2) t p) from if_pos q]
    refine brT q ⟨6, _, by decide, c_adv hL ht ht2 hin, ?_⟩
    rintro h' w' ⟨hin2, rfl⟩
    exact ⟨rfl, hin2, rfl⟩
  · rw [show tokP s (S.2 2) t p = (false, p) from if_neg q]
    exact brF q ⟨rfl, hin, rfl⟩
/-- the parts from one on -/
def rtP (orf : GF) (tp : List Int32) (t : Nat) : Nat → Nat → PS → List Int32 → Bool × PS × List Int32
  | 0, _, p, st => (if srt p = 0 then true else false, p, st)
  | m + 1, k, p, st => if srt p = 4 + nI k then
      (if (orf (advP tp t p)).1 = true then
        (if srt (orf (advP tp t p)).2 = 59 then rtP orf tp t m (k + 1) (advP tp t (orf (advP tp t p)).2) (putF st (nI k + 1) (nI (orf (advP tp t p)).2.2.length))
        else (false, (orf (advP tp t p)).2, putF st (nI k + 1) (nI (orf (advP tp t p)).2.2.length)))
      else (false, (orf (advP tp t p)).2, st))
    else (false, p, st)
abbrev rtQ (S : CS) (T : AH) (t : Nat) (R : Bool × PS × List Int32) : AH → Option Value → Prop := fun h w => InC (cR S 6 R.2.2) T t R.2.1 h ∧ w = some (.int (bB R.1))
theorem cR6_len {st : List Int32} (hL : CLen S) (h : st.length ≤ 1000) : CLen (cR S 6 st) := by
  intro j
  show (uf S.2 6 st j).length ≤ 1000
  unfold uf
  split
  · exact h
  · exact hL j
set_option maxRecDepth 100000 in
theorem c_clear : Ctr l 0 X sgX0_clear [.ref 3] (encC S ++ T) (kV (encC (cN S 34 0) ++ T)) := by
  refine Ctr.of okX0_clear rfl (Nat.le_of_ble_eq_true rfl) (run_sound okX0_clear noCut 200 ?_)
  exact And.intro trivial ⟨rfl, rfl, rfl⟩
set_option maxRecDepth 100000 in
theorem c_endPart {st : List Int32} (hs : st.length < 2 ^ 31) (part : Int32) {p : PS} {h : AH} (hin : InC (cR S 6 st) T t p h) : Ctr l 1 X sgX0_endPart [.ref 3, .int part] h (fun h w => InC (cR S 6 (putF st (part + 1) (nI p.2.length))) T t p h ∧ w = none) := by
  obtain ⟨hle, r4, r5, hcr, rfl⟩ := hin
  refine Ctr.of okX0_endPart rfl (Nat.le_of_ble_eq_true rfl) (run_sound okX0_endPart noCut 200 ?_)
  exact kH (c_put (xs := st) rfl rfl hs) (by decide) ⟨rfl, ⟨hle, r4, r5, hcr, rfl⟩, rfl⟩
def cNrt (i : Nat) : Bool := Nat.beq i 8
set_option maxRecDepth 100000 in
set_option maxHeartbeats 4000000 in
theorem c_readText (hL : CLen S) (ht : S.1 11 = nI t) (ht2 : t ≤ 160) (h4 : (S.2 4).length = 160) (h5 : (S.2 5).length = 160) : Ctr l 54 X sgX1_readText [.ref 8] (encC S ++ T) (rtQ S T t (rtP (lvP (S.2 2) t 5).1 (S.2 2) t 3 0 (lexF (S.2 2) t 0, []) (S.2 6))) := by
  obtain ⟨W, hW⟩ : ∃ W, rtP (lvP (S.2 2) t 5).1 (S.2 2) t 3 0 (lexF (S.2 2) t 0, []) (S.2 6) = W := ⟨_, rfl⟩
  rw [hW]
  have key : ∀ j, j ≤ 3 → ∀ (p : PS) (st : List Int32) (h : AH), st.length ≤ 1000 → InC (cR S 6 st) T t p h → rtP (lvP (S.2 2) t 5).1 (S.2 2) t (3 - j) j p st = W → WP l (rmD 54 0 0) X sgX1_readText kX1_readText (rtQ S T t W) 8 [some (.ref 8), some (.int (nI j))] [] h 0 0 := by
    refine down (fun p st h hst hin e => ?_) (fun j hj ih p st h hst hin e => ?_)
    · have e : (if srt p = 0 then true else false, p, st) = W := e
      subst e
      obtain ⟨hle, r4, r5, hcr, rfl⟩ := id hin
      refine run_sound okX1_readText cNrt 200 (brT (Int32.le_refl _) (br (fun q => ?_) (fun q => ?_)))
      · refine ⟨rfl, hin, some_int ?_⟩
        show (1 : Int32) = bB (if srt p = 0 then true else false)
        rw [if_pos (show srt p = 0 from q)]
        rfl
      · refine ⟨rfl, hin, some_int ?_⟩
        show (0 : Int32) = bB (if srt p = 0 then true else false)
        rw [if_neg (show ¬ srt p = 0 from q)]
        rfl
    · rw [show 3 - j = (3 - (j + 1)) + 1 by omega, rtP] at e
      have hL' := cR6_len (S := S) hL hst
      obtain ⟨hle, r4, r5, hcr, rfl⟩ := id hin
      have c1 := c_readToken (l := l) (X := X) (S := cR S 6 st) hL' ht ht2 (4 + nI j) hin
      by_cases q : srt p = 4 + nI j
      · rw [if_pos q] at e
        rw [show tokP (4 + nI j) ((cR S 6 st).2 2) t p = (true, advP (S.2 2) t p) from if_pos q] at c1
        refine run_sound okX1_readText cNrt 200 (brF (ge_no (n := 3) rfl hj (by decide)) ⟨7, _, by decide, c1, ?_⟩)
        rintro h' w' ⟨hin1, rfl⟩
        obtain ⟨hle1, r41, r51, hcr1, rfl⟩ := id hin1
        have c2 := (lvP_ok (l := l) (X := X) (T := T) (S := cR S 6 st) hL' ht ht2 5 (by decide)).1 _ _ hin1
        have c2 : Ctr l 53 X sgX1_readOr [.ref 8, .int 0] (encC (pS (cR S 6 st) (advP (S.2 2) t p).1 r41 r51 (advP (S.2 2) t p).2.length) ++ T) (GP (cR S 6 st) T t ((lvP (S.2 2) t 5).1 (advP (S.2 2) t p))) := c2
        generalize (lvP (S.2 2) t 5).1 (advP (S.2 2) t p) = r at c2 e
        refine brF (show ¬ bB true = 0 by decide) ⟨53, _, by decide, c2, ?_⟩
        rintro h' w' ⟨hin2, rfl⟩
        obtain ⟨hle2, r42, r52, hcr2, rfl⟩ := id hin2
        refine brBB (fun z => ?_) (fun z => ?_)
        · rw [if_neg (by rw [z]; decide)] at e
          subst e
          exact ⟨rfl, hin2, rfl⟩
        · rw [if_pos z] at e
          refine ⟨1, _, by decide, c_endPart (by omega) (nI j) hin2, ?_⟩
          rintro h' w' ⟨hin3, rfl⟩
          obtain ⟨hle3, r43, r53, hcr3, rfl⟩ := id hin3
          have hst3 : (putF st (nI j + 1) (nI r.2.2.length)).length ≤ 1000 := by rw [putF_len]; exact hst
          have c3 := c_readToken (l := l) (X := X) (S := cR S 6 (putF st (nI j + 1) (nI r.2.2.length))) (cR6_len hL hst3) ht ht2 59 hin3
          by_cases q3 : srt r.2 = 59
          · rw [if_pos q3] at e
            rw [show tokP 59 ((cR S 6 (putF st (nI j + 1) (nI r.2.2.length))).2 2) t r.2 = (true, advP (S.2 2) t r.2) from if_pos q3] at c3
            refine ⟨7, _, by decide, c3, ?_⟩
            rintro h' w' ⟨hin4, rfl⟩
            obtain ⟨hle4, r44, r54, hcr4, rfl⟩ := id hin4
            have ih := ih _ _ _ hst3 hin4 e
            rw [← nI_1 j] at ih
            exact brF (show ¬ bB true = 0 by decide) ih
          · rw [if_neg q3] at e
            rw [show tokP 59 ((cR S 6 (putF st (nI j + 1) (nI r.2.2.length))).2 2) t r.2 = (false, r.2) from if_neg q3] at c3
            refine ⟨7, _, by decide, c3, ?_⟩
            rintro h' w' ⟨hin4, rfl⟩
            obtain ⟨hle4, r44, r54, hcr4, rfl⟩ := id hin4
            subst e
            exact brT rfl ⟨rfl, hin4, rfl⟩
      · rw [if_neg q] at e
        rw [show tokP (4 + nI j) ((cR S 6 st).2 2) t p = (false, p) from if_neg q] at c1
        refine run_sound okX1_readText cNrt 200 (brF (ge_no (n := 3) rfl hj (by decide)) ⟨7, _, by decide, c1, ?_⟩)
        rintro h' w' ⟨hin1, rfl⟩
        obtain ⟨hle1, r41, r51, hcr1, rfl⟩ := id hin1
        subst e
        exact brT rfl ⟨rfl, hin1, rfl⟩
  refine Ctr.of okX1_readText rfl (Nat.le_of_ble_eq_true rfl) (run_sound okX1_readText cNrt 200 ?_)
  refine kH (c_start hL ht ht2) (by decide) (kH c_clear (by decide) ?_)
  exact key 0 (Nat.zero_le _) (lexF (S.2 2) t 0, []) (S.2 6) _ (hL 6) ⟨lexF_le (Nat.zero_le _), S.2 4, S.2 5, ⟨h4, h5, Nat.zero_le _, rfl, rfl⟩, rfl⟩ hW
end TEXTC
