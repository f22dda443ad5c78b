/-! THE CLASS's reader, rule by rule -/
section READ
variable {l : Launch} {X : List (List Int32)} {S : CS} {T : AH} {t : Nat} {d : Nat}
abbrev GF : Type := PS → Bool × PS
abbrev GP (S : CS) (T : AH) (t : Nat) (r : Bool × PS) : AH → Option Value → Prop := fun h w => InC S T t r.2 h ∧ w = some (.int (bB r.1))
/-- a rule is read as a function says -/
def GC (l : Launch) (X : List (List Int32)) (S : CS) (T : AH) (t d : Nat) (g : Sig) (o : Int32) (f : GF) : Prop := ∀ (p : PS) (h : AH), InC S T t p h → Ctr l d X g [.ref 8, .int o] h (GP S T t (f p))
abbrev srt (p : PS) : Int32 := p.1.2.2.1
theorem rmo {cs : Sig} {d d' : Nat} (h : d' + 1 ≤ d) (h2 : sL cs ≤ 45 ∧ sC cs = 0 ∧ sS cs = 0) : d' + 1 ≤ (rmD d 0 0).frames ∧ 8 + (sL cs + 11) + 64 * d' ≤ (rmD d 0 0).locals ∧ 0 + sC cs ≤ (rmD d 0 0).cells ∧ 0 + sS cs ≤ (rmD d 0 0).slots := by
  refine ⟨h, ?_, ?_, ?_⟩
  · show 8 + (sL cs + 11) + 64 * d' ≤ 64 * d
    omega
  · show 0 + sC cs ≤ 0
    omega
  · show 0 + sS cs ≤ 0
    omega
def loopP (sub : GF) (tp : List Int32) (t : Nat) (ops : Int32 → Bool) : Nat → GF
  | 0, p => (true, p)
  | m + 1, p => if ops (srt p) = true then (if (sub (advP tp t p)).1 = true then loopP sub tp t ops m (addP (srt p) 0 (sub (advP tp t p)).2) else (false, (sub (advP tp t p)).2)) else (true, p)
def binP (sub : GF) (tp : List Int32) (t : Nat) (ops : Int32 → Bool) : GF := fun p => if (sub p).1 = true then loopP sub tp t ops 160 (sub p).2 else (false, (sub p).2)
def isS (s : Int32) : Int32 → Bool := fun x => x == s
def isPM : Int32 → Bool := fun x => x == 43 || x == 45
set_option maxRecDepth 100000 in
set_option maxHeartbeats 4000000 in
theorem c_readTerm (hL : CLen S) (ht : S.1 11 = nI t) (ht2 : t ≤ 160) {o : Int32} {sub : GF} (hd : 6 ≤ d) (hsub : GC l X S T t d sgX1_readOne o sub) : GC l X S T t (d + 1) sgX1_readTerm o (binP sub (S.2 2) t (isS 42)) := by
  intro p h hin
  have key : ∀ j, j ≤ 160 → ∀ (p : PS) (h : AH), InC S T t p h → WP l (rmD (d + 1) 0 0) X sgX1_readTerm kX1_readTerm (GP S T t (loopP sub (S.2 2) t (isS 42) (160 - j) p)) 8 [some (.ref 8), some (.int o), some (.int (nI j))] [] h 0 0 := by
    refine down (fun p h hin => ?_) (fun j hj ih p h hin => ?_)
    · obtain ⟨hle, r4, r5, hcr, rfl⟩ := id hin
      exact run_sound okX1_readTerm (fun i => Nat.beq i 8) 100 (brT (Int32.le_refl _) ⟨rfl, hin, rfl⟩)
    · rw [show 160 - j = (160 - (j + 1)) + 1 by omega, loopP]
      obtain ⟨hle, r4, r5, hcr, rfl⟩ := id hin
      by_cases q : srt p = 42
      · rw [if_pos (show isS 42 (srt p) = true from beq_iff_eq.mpr q), q]
        refine run_sound okX1_readTerm (fun i => Nat.beq i 8) 100 (brF (nI_ge (b := 160) hj (by decide)) (brT q ⟨6, _, rmo (by omega) (by decide), c_adv hL ht ht2 hin, ?_⟩))
        rintro h' w ⟨hin', rfl⟩
        obtain ⟨hle', r4', r5', hcr', rfl⟩ := id hin'
        refine ⟨d, _, rmo (by omega) (by decide), hsub _ _ hin', ?_⟩
        rintro h' w ⟨hin2, rfl⟩
        obtain ⟨hle2, r42, r52, hcr2, rfl⟩ := id hin2
        refine brBB (fun z => ?_) (fun z => ?_)
        · rw [if_neg (by rw [z]; decide)]
          exact ⟨rfl, hin2, rfl⟩
        · rw [if_pos z]
          refine ⟨1, _, rmo (by omega) (by decide), c_add 42 0 hin2, ?_⟩
          rintro h' w ⟨hin3, rfl⟩
          have ih := ih _ _ hin3
          rw [← nI_1 j] at ih
          exact ih
      · rw [if_neg (show ¬ isS 42 (srt p) = true from fun z => q (beq_iff_eq.mp z))]
        exact run_sound okX1_readTerm (fun i => Nat.beq i 8) 100 (brF (nI_ge (b := 160) hj (by decide)) (brF q ⟨rfl, hin, rfl⟩))
  obtain ⟨hle, r4, r5, hcr, rfl⟩ := id hin
  refine Ctr.of okX1_readTerm rfl (Nat.le_of_ble_eq_true rfl) (run_sound okX1_readTerm (fun i => Nat.beq i 8) 100 ⟨d, _, rmo (by omega) (by decide), hsub _ _ hin, ?_⟩)
  rintro h' w ⟨hin2, rfl⟩
  obtain ⟨hle2, r42, r52, hcr2, rfl⟩ := id hin2
  unfold binP
  refine brBB (fun z => ?_) (fun z => ?_)
  · rw [if_neg (by rw [z]; decide)]
    exact ⟨rfl, hin2, rfl⟩
  · rw [if_pos z]
    exact key 0 (Nat.zero_le _) _ _ hin2
set_option maxRecDepth 100000 in
set_option maxHeartbeats 4000000 in
theorem c_readAnd (hL : CLen S) (ht : S.1 11 = nI t) (ht2 : t ≤ 160) {o : Int32} {sub : GF} (hd : 6 ≤ d) (hsub : GC l X S T t d sgX1_readNot o sub) : GC l X S T t (d + 1) sgX1_readAnd o (binP sub (S.2 2) t (isS 8)) := by
  intro p h hin
  have key : ∀ j, j ≤ 160 → ∀ (p : PS) (h : AH), InC S T t p h → WP l (rmD (d + 1) 0 0) X sgX1_readAnd kX1_readAnd (GP S T t (loopP sub (S.2 2) t (isS 8) (160 - j) p)) 8 [some (.ref 8), some (.int o), some (.int (nI j))] [] h 0 0 := by
    refine down (fun p h hin => ?_) (fun j hj ih p h hin => ?_)
    · obtain ⟨hle, r4, r5, hcr, rfl⟩ := id hin
      exact run_sound okX1_readAnd (fun i => Nat.beq i 8) 100 (brT (Int32.le_refl _) ⟨rfl, hin, rfl⟩)
    · rw [show 160 - j = (160 - (j + 1)) + 1 by omega, loopP]
      obtain ⟨hle, r4, r5, hcr, rfl⟩ := id hin
      by_cases q : srt p = 8
      · rw [if_pos (show isS 8 (srt p) = true from beq_iff_eq.mpr q), q]
        refine run_sound okX1_readAnd (fun i => Nat.beq i 8) 100 (brF (nI_ge (b := 160) hj (by decide)) (brT q ⟨6, _, rmo (by omega) (by decide), c_adv hL ht ht2 hin, ?_⟩))
        rintro h' w ⟨hin', rfl⟩
        obtain ⟨hle', r4', r5', hcr', rfl⟩ := id hin'
        refine ⟨d, _, rmo (by omega) (by decide), hsub _ _ hin', ?_⟩
        rintro h' w ⟨hin2, rfl⟩
        obtain ⟨hle2, r42, r52, hcr2, rfl⟩ := id hin2
        refine brBB (fun z => ?_) (fun z => ?_)
        · rw [if_neg (by rw [z]; decide)]
          exact ⟨rfl, hin2, rfl⟩
        · rw [if_pos z]
          refine ⟨1, _, rmo (by omega) (by decide), c_add 8 0 hin2, ?_⟩
          rintro h' w ⟨hin3, rfl⟩
          have ih := ih _ _ hin3
          rw [← nI_1 j] at ih
          exact ih
      · rw [if_neg (show ¬ isS 8 (srt p) = true from fun z => q (beq_iff_eq.mp z))]
        exact run_sound okX1_readAnd (fun i => Nat.beq i 8) 100 (brF (nI_ge (b := 160) hj (by decide)) (brF q ⟨rfl, hin, rfl⟩))
  obtain ⟨hle, r4, r5, hcr, rfl⟩ := id hin
  refine Ctr.of okX1_readAnd rfl (Nat.le_of_ble_eq_true rfl) (run_sound okX1_readAnd (fun i => Nat.beq i 8) 100 ⟨d, _, rmo (by omega) (by decide), hsub _ _ hin, ?_⟩)
  rintro h' w ⟨hin2, rfl⟩
  obtain ⟨hle2, r42, r52, hcr2, rfl⟩ := id hin2
  unfold binP
  refine brBB (fun z => ?_) (fun z => ?_)
  · rw [if_neg (by rw [z]; decide)]
    exact ⟨rfl, hin2, rfl⟩
  · rw [if_pos z]
    exact key 0 (Nat.zero_le _) _ _ hin2
set_option maxRecDepth 100000 in
set_option maxHeartbeats 4000000 in
theorem c_readOr (hL : CLen S) (ht : S.1 11 = nI t) (ht2 : t ≤ 160) {o : Int32} {sub : GF} (hd : 6 ≤ d) (hsub : GC l X S T t d sgX1_readAnd o sub) : GC l X S T t (d + 1) sgX1_readOr o (binP sub (S.2 2) t (isS 7)) := by
  intro p h hin
  have key : ∀ j, j ≤ 160 → ∀ (p : PS) (h : AH), InC S T t p h → WP l (rmD (d + 1) 0 0) X sgX1_readOr kX1_readOr (GP S T t (loopP sub (S.2 2) t (isS 7) (160 - j) p)) 8 [some (.ref 8), some (.int o), some (.int (nI j))] [] h 0 0 := by
    refine down (fun p h hin => ?_) (fun j hj ih p h hin => ?_)
    · obtain ⟨hle, r4, r5, hcr, rfl⟩ := id hin
      exact run_sound okX1_readOr (fun i => Nat.beq i 8) 100 (brT (Int32.le_refl _) ⟨rfl, hin, rfl⟩)
    · rw [show 160 - j = (160 - (j + 1)) + 1 by omega, loopP]
      obtain ⟨hle, r4, r5, hcr, rfl⟩ := id hin
      by_cases q : srt p = 7
      · rw [if_pos (show isS 7 (srt p) = true from beq_iff_eq.mpr q), q]
        refine run_sound okX1_readOr (fun i => Nat.beq i 8) 100 (brF (nI_ge (b := 160) hj (by decide)) (brT q ⟨6, _, rmo (by omega) (by decide), c_adv hL ht ht2 hin, ?_⟩))
        rintro h' w ⟨hin', rfl⟩
        obtain ⟨hle', r4', r5', hcr', rfl⟩ := id hin'
        refine ⟨d, _, rmo (by omega) (by decide), hsub _ _ hin', ?_⟩
        rintro h' w ⟨hin2, rfl⟩
        obtain ⟨hle2, r42, r52, hcr2, rfl⟩ := id hin2
        refine brBB (fun z => ?_) (fun z => ?_)
        · rw [if_neg (by rw [z]; decide)]
          exact ⟨rfl, hin2, rfl⟩
        · rw [if_pos z]
          refine ⟨1, _, rmo (by omega) (by decide), c_add 7 0 hin2, ?_⟩
          rintro h' w ⟨hin3, rfl⟩
          have ih := ih _ _ hin3
          rw [← nI_1 j] at ih
          exact ih
      · rw [if_neg (show ¬ isS 7 (srt p) = true from fun z => q (beq_iff_eq.mp z))]
        exact run_sound okX1_readOr (fun i => Nat.beq i 8) 100 (brF (nI_ge (b := 160) hj (by decide)) (brF q ⟨rfl, hin, rfl⟩))
  obtain ⟨hle, r4, r5, hcr, rfl⟩ := id hin
  refine Ctr.of okX1_readOr rfl (Nat.le_of_ble_eq_true rfl) (run_sound okX1_readOr (fun i => Nat.beq i 8) 100 ⟨d, _, rmo (by omega) (by decide), hsub _ _ hin, ?_⟩)
  rintro h' w ⟨hin2, rfl⟩
  obtain ⟨hle2, r42, r52, hcr2, rfl⟩ := id hin2
  unfold binP
  refine brBB (fun z => ?_) (fun z => ?_)
  · rw [if_neg (by rw [z]; decide)]
    exact ⟨rfl, hin2, rfl⟩
  · rw [if_pos z]
    exact key 0 (Nat.zero_le _) _ _ hin2
set_option maxRecDepth 100000 in
set_option maxHeartbeats 4000000 in
theorem c_readSum (hL : CLen S) (ht : S.1 11 = nI t) (ht2 : t ≤ 160) {o : Int32} {sub : GF} (hd : 6 ≤ d) (hsub : GC l X S T t d sgX1_readTerm o sub) : GC l X S T t (d + 1) sgX1_readSum o (binP sub (S.2 2) t isPM) := by
  intro p h hin
  have key : ∀ j, j ≤ 160 → ∀ (p : PS) (h : AH), InC S T t p h → ∀ x3, WP l (rmD (d + 1) 0 0) X sgX1_readSum kX1_readSum (GP S T t (loopP sub (S.2 2) t isPM (160 - j) p)) 8 [some (.ref 8), some (.int o), some (.int (nI j)), x3] [] h 0 0 := by
    refine down (fun p h hin x3 => ?_) (fun j hj ih p h hin x3 => ?_)
    · obtain ⟨hle, r4, r5, hcr, rfl⟩ := id hin
      exact run_sound okX1_readSum (fun i => Nat.beq i 8) 100 (brT (Int32.le_refl _) ⟨rfl, hin, rfl⟩)
    · rw [show 160 - j = (160 - (j + 1)) + 1 by omega, loopP]
      obtain ⟨hle, r4, r5, hcr, rfl⟩ := id hin
      have t21 : isPM (srt p) = true → WP l (rmD (d + 1) 0 0) X sgX1_readSum kX1_readSum (GP S T t (if (sub (advP (S.2 2) t p)).1 = true then loopP sub (S.2 2) t isPM (160 - (j + 1)) (addP (srt p) 0 (sub (advP (S.2 2) t p)).2) else (false, (sub (advP (S.2 2) t p)).2))) 21 [some (.ref 8), some (.int o), some (.int (nI j)), x3] [] (encC (pS S p.1 r4 r5 p.2.length) ++ T) 0 0 := by
        intro _
        refine run_sound okX1_readSum (fun i => Nat.beq i 8) 100 ⟨6, _, rmo (by omega) (by decide), c_adv hL ht ht2 hin, ?_⟩
        rintro h' w ⟨hin', rfl⟩
        obtain ⟨hle', r4', r5', hcr', rfl⟩ := id hin'
        refine ⟨d, _, rmo (by omega) (by decide), hsub _ _ hin', ?_⟩
        rintro h' w ⟨hin2, rfl⟩
        obtain ⟨hle2, r42, r52, hcr2, rfl⟩ := id hin2
        refine brBB (fun z => ?_) (fun z => ?_)
        · rw [if_neg (by rw [z]; decide)]
          exact ⟨rfl, hin2, rfl⟩
        · rw [if_pos z]
          refine ⟨1, _, rmo (by omega) (by decide), c_add (srt p) 0 hin2, ?_⟩
          rintro h' w ⟨hin3, rfl⟩
          have ih := ih _ _ hin3 (some (.int (srt p)))
          rw [← nI_1 j] at ih
          exact ih
      by_cases q : isPM (srt p) = true
      · rw [if_pos q]
        refine run_sound okX1_readSum (fun i => Nat.beq i 8 || Nat.beq i 21) 100 (brF (nI_ge (b := 160) hj (by decide)) (br (fun _ => t21 q) (fun h1 => br (fun _ => t21 q) (fun h2 => ?_))))
        exfalso
        simp only [isPM, Bool.or_eq_true, beq_iff_eq] at q
        exact q.elim h1 h2
      · rw [if_neg q]
        simp only [isPM, Bool.or_eq_true, beq_iff_eq] at q
        exact run_sound okX1_readSum (fun i => Nat.beq i 8 || Nat.beq i 21) 100 (brF (nI_ge (b := 160) hj (by decide)) (brF (fun z => q (Or.inl z)) (brF (fun z => q (Or.inr z)) ⟨rfl, hin, rfl⟩)))
  obtain ⟨hle, r4, r5, hcr, rfl⟩ := id hin
  refine Ctr.of okX1_readSum rfl (Nat.le_of_ble_eq_true rfl) (run_sound okX1_readSum (fun i => Nat.beq i 8) 100 ⟨d, _, rmo (by omega) (by decide), hsub _ _ hin, ?_⟩)
  rintro h' w ⟨hin2, rfl⟩
  obtain ⟨hle2, r42, r52, hcr2, rfl⟩ := id hin2
  unfold binP
  refine brBB (fun z => ?_) (fun z => ?_)
  · rw [if_neg (by rw [z]; decide)]
    exact ⟨rfl, hin2, rfl⟩
  · rw [if_pos z]
    exact key 0 (Nat.zero_le _) _ _ hin2 none
def isCm : Int32 → Bool := fun x => x == 60 || x == 61
def cmpP (sub : GF) (tp : List Int32) (t : Nat) : GF := fun p =>
  if (sub p).1 = true then
    (if isCm (srt (sub p).2) = true then
      (if (sub (advP tp t (sub p).2)).1 = true then (true, addP (srt (sub p).2) 0 (sub (advP tp t (sub p).2)).2) else (false, (sub (advP tp t (sub p).2)).2))
    else (true, (sub p).2))
  else (false, (sub p).2)
set_option maxRecDepth 100000 in
set_option maxHeartbeats 4000000 in
theorem c_readCompared (hL : CLen S) (ht : S.1 11 = nI t) (ht2 : t ≤ 160) {o : Int32} {sub : GF} (hd : 6 ≤ d) (hsub : GC l X S T t d sgX1_readSum o sub) : GC l X S T t (d + 1) sgX1_readCompared o (cmpP sub (S.2 2) t) := by
  intro p h hin
  obtain ⟨hle, r4, r5, hcr, rfl⟩ := id hin
  refine Ctr.of okX1_readCompared rfl (Nat.le_of_ble_eq_true rfl) (run_sound okX1_readCompared (fun i => Nat.beq i 18) 100 ⟨d, _, rmo (by omega) (by decide), hsub _ _ hin, ?_⟩)
  unfold cmpP
  generalize sub p = r
  rintro h' w ⟨hin2, rfl⟩
  obtain ⟨hle2, r42, r52, hcr2, rfl⟩ := id hin2
  refine brBB (fun z => ?_) (fun z => ?_)
  · rw [if_neg (by rw [z]; decide)]
    exact ⟨rfl, hin2, rfl⟩
  · rw [if_pos z]
    have t18 : WP l (rmD (d + 1) 0 0) X sgX1_readCompared kX1_readCompared (GP S T t (if (sub (advP (S.2 2) t r.2)).1 = true then (true, addP (srt r.2) 0 (sub (advP (S.2 2) t r.2)).2) else (false, (sub (advP (S.2 2) t r.2)).2))) 18 [some (.ref 8), some (.int o), some (.int (srt r.2))] [] (encC (pS S r.2.1 r42 r52 r.2.2.length) ++ T) 0 0 := by
      refine run_sound okX1_readCompared noCut 100 ⟨6, _, rmo (by omega) (by decide), c_adv hL ht ht2 hin2, ?_⟩
      rintro h' w ⟨hin', rfl⟩
      obtain ⟨hle', r4', r5', hcr', rfl⟩ := id hin'
      refine ⟨d, _, rmo (by omega) (by decide), hsub _ _ hin', ?_⟩
      rintro h' w ⟨hin3, rfl⟩
      obtain ⟨hle3, r43, r53, hcr3, rfl⟩ := id hin3
      refine brBB (fun z => ?_) (fun z => ?_)
      · rw [if_neg (by rw [z]; decide)]
        exact ⟨rfl, hin3, rfl⟩
      · rw [if_pos z]
        refine ⟨1, _, rmo (by omega) (by decide), c_add (srt r.2) 0 hin3, ?_⟩
        rintro h' w ⟨hin4, rfl⟩
        exact ⟨rfl, hin4, rfl⟩
    by_cases q : isCm (srt r.2) = true
    · rw [if_pos q]
      refine br (fun _ => t18) (fun h1 => br (fun _ => t18) (fun h2 => ?_))
      exfalso
      simp only [isCm, Bool.or_eq_true, beq_iff_eq] at q
      exact q.elim h1 h2
    · rw [if_neg q]
      simp only [isCm, Bool.or_eq_true, beq_iff_eq] at q
      exact brF (fun z => q (Or.inl z)) (brF (fun z => q (Or.inr z)) ⟨rfl, hin2, rfl⟩)
end READ
