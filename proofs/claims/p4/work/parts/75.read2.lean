/-! THE CLASS's reader: nots, ones, brackets, all depths; a whole text -/
section READ2
variable {l : Launch} {X : List (List Int32)} {S : CS} {T : AH} {t : Nat} {d d1 d2 : Nat}
theorem nbB {b : Bool} : narrow .boolean (.int (bB b)) = .int (bB b) := by cases b <;> rfl
def notP (cmp : GF) (prev : Option GF) (tp : List Int32) (t : Nat) : GF := fun p =>
  if srt p = 9 then (match prev with
    | none => (false, p)
    | some f => if (f (advP tp t p)).1 = true then (true, addP 9 0 (f (advP tp t p)).2) else (false, (f (advP tp t p)).2))
  else cmp p
set_option maxRecDepth 100000 in
set_option maxHeartbeats 4000000 in
theorem c_readNot (hL : CLen S) (ht : S.1 11 = nI t) (ht2 : t ≤ 160) {o : Int32} {cmp : GF} {prev : Option GF} (hd : 6 ≤ d) (hcmp : GC l X S T t d sgX1_readCompared o cmp)
    (h0 : prev = none → ¬ o < 5) (h1 : ∀ f, prev = some f → o < 5 ∧ GC l X S T t d1 sgX1_readNot (o + 1) f) (hd1 : d1 ≤ d) : GC l X S T t (d + 1) sgX1_readNot o (notP cmp prev (S.2 2) t) := by
  intro p h hin
  obtain ⟨hle, r4, r5, hcr, rfl⟩ := id hin
  refine Ctr.of okX1_readNot rfl (Nat.le_of_ble_eq_true rfl) (run_sound okX1_readNot noCut 100 ?_)
  unfold notP
  by_cases q : srt p = 9
  · rw [if_pos q]
    refine brT q ?_
    cases hp : prev with
    | none => exact brF (h0 hp) ⟨rfl, hin, rfl⟩
    | some f =>
      obtain ⟨ho, hf⟩ := h1 f hp
      refine brT ho ⟨6, _, rmo (by omega) (by decide), c_adv hL ht ht2 hin, ?_⟩
      rintro h' w ⟨hin', rfl⟩
      obtain ⟨hle', r4', r5', hcr', rfl⟩ := id hin'
      refine ⟨d1, _, rmo (by omega) (by decide), hf _ _ hin', ?_⟩
      rintro h' w ⟨hin2, rfl⟩
      obtain ⟨hle2, r42, r52, hcr2, rfl⟩ := id hin2
      refine brBB (fun z => ?_) (fun z => ?_)
      · show narrow .boolean (.int 0) = .int 0 ∧ GP S T t (if (f (advP (S.2 2) t p)).1 = true then _ else _) _ _
        rw [if_neg (by rw [z]; decide)]
        exact ⟨rfl, hin2, rfl⟩
      · refine ⟨1, _, rmo (by omega) (by decide), c_add 9 0 hin2, ?_⟩
        rintro h' w ⟨hin3, rfl⟩
        refine ⟨rfl, ?_⟩
        show GP S T t (if (f (advP (S.2 2) t p)).1 = true then _ else _) _ _
        rw [if_pos z]
        exact ⟨hin3, rfl⟩
  · rw [if_neg q]
    refine brF q ⟨d, _, rmo (by omega) (by decide), hcmp _ _ hin, ?_⟩
    rintro h' w ⟨hin2, rfl⟩
    exact ⟨nbB, hin2, rfl⟩
def bktP (orf : GF) (tp : List Int32) (t : Nat) : GF := fun p => if (orf p).1 = true then (if srt (orf p).2 = 41 then (true, advP tp t (orf p).2) else (false, (orf p).2)) else (false, (orf p).2)
set_option maxRecDepth 100000 in
set_option maxHeartbeats 4000000 in
theorem c_readBracket (hL : CLen S) (ht : S.1 11 = nI t) (ht2 : t ≤ 160) {o : Int32} {orf : GF} (hd : 6 ≤ d) (hor : GC l X S T t d sgX1_readOr o orf) : GC l X S T t (d + 1) sgX1_readBracket o (bktP orf (S.2 2) t) := by
  intro p h hin
  obtain ⟨hle, r4, r5, hcr, rfl⟩ := id hin
  refine Ctr.of okX1_readBracket rfl (Nat.le_of_ble_eq_true rfl) (run_sound okX1_readBracket noCut 100 ⟨d, _, rmo (by omega) (by decide), hor _ _ hin, ?_⟩)
  unfold bktP
  generalize orf p = r
  rintro h' w ⟨hin2, rfl⟩
  obtain ⟨hle2, r42, r52, hcr2, rfl⟩ := id hin2
  refine brBB (fun z => ?_) (fun z => ?_)
  · rw [if_neg (by rw [z]; decide)]
    exact ⟨rfl, hin2, rfl⟩
  · rw [if_pos z]
    by_cases q : srt r.2 = 41
    · rw [if_pos q]
      refine brT q ⟨6, _, rmo (by omega) (by decide), c_adv hL ht ht2 hin2, ?_⟩
      rintro h' w ⟨hin3, rfl⟩
      exact ⟨rfl, hin3, rfl⟩
    · rw [if_neg q]
      exact brF q ⟨rfl, hin2, rfl⟩
def oneM (prev : Option (GF × GF)) (tp : List Int32) (t : Nat) : GF := fun p => match prev with
  | none => (false, p)
  | some f => if srt p = 40 then bktP f.1 tp t (advP tp t p)
    else if (f.2 (advP tp t p)).1 = true then (true, addP 10 0 (f.2 (advP tp t p)).2) else (false, (f.2 (advP tp t p)).2)
def oneP (prev : Option (GF × GF)) (tp : List Int32) (t : Nat) : GF := fun p =>
  if srt p = 2 ∨ srt p = 3 then (true, advP tp t (addP (srt p) p.1.2.2.2 p))
  else if srt p = 45 ∨ srt p = 40 then oneM prev tp t p
  else (false, p)
set_option maxRecDepth 100000 in
set_option maxHeartbeats 4000000 in
theorem c_readOne (hL : CLen S) (ht : S.1 11 = nI t) (ht2 : t ≤ 160) {o : Int32} {prev : Option (GF × GF)} (hd : 6 ≤ d)
    (h0 : prev = none → ¬ o < 5) (h1 : ∀ f, prev = some f → o < 5 ∧ (d1 + 1 ≤ d ∧ 6 ≤ d1 ∧ d2 ≤ d) ∧ GC l X S T t d1 sgX1_readOr (o + 1) f.1 ∧ GC l X S T t d2 sgX1_readOne (o + 1) f.2) : GC l X S T t (d + 1) sgX1_readOne o (oneP prev (S.2 2) t) := by
  intro p h hin
  obtain ⟨hle, r4, r5, hcr, rfl⟩ := id hin
  refine Ctr.of okX1_readOne rfl (Nat.le_of_ble_eq_true rfl) (run_sound okX1_readOne (fun i => Nat.beq i 10 || Nat.beq i 36) 100 ?_)
  by_cases q : srt p = 2 ∨ srt p = 3
  · have e : oneP prev (S.2 2) t p = (true, advP (S.2 2) t (addP (srt p) p.1.2.2.2 p)) := if_pos q
    rw [e]
    have t10 : WP l (rmD (d + 1) 0 0) X sgX1_readOne kX1_readOne (GP S T t (true, advP (S.2 2) t (addP (srt p) p.1.2.2.2 p))) 10 [some (.ref 8), some (.int o), none] [] (encC (pS S p.1 r4 r5 p.2.length) ++ T) 0 0 := by
      refine run_sound okX1_readOne noCut 100 ⟨1, _, rmo (by omega) (by decide), c_add (srt p) p.1.2.2.2 hin, ?_⟩
      rintro h' w ⟨hin2, rfl⟩
      obtain ⟨hle2, r42, r52, hcr2, rfl⟩ := id hin2
      refine ⟨6, _, rmo (by omega) (by decide), c_adv hL ht ht2 hin2, ?_⟩
      rintro h' w ⟨hin3, rfl⟩
      exact ⟨rfl, hin3, rfl⟩
    exact br (fun _ => t10) (fun h1 => br (fun _ => t10) (fun h2 => absurd q (fun z => z.elim h1 h2)))
  · by_cases q2 : srt p = 45 ∨ srt p = 40
    · have e : oneP prev (S.2 2) t p = (oneM prev (S.2 2) t p) := (if_neg q).trans (if_pos q2)
      rw [e]
      have t36 : WP l (rmD (d + 1) 0 0) X sgX1_readOne kX1_readOne (GP S T t (oneM prev (S.2 2) t p)) 36 [some (.ref 8), some (.int o), none] [] (encC (pS S p.1 r4 r5 p.2.length) ++ T) 0 0 := by
        cases hp : prev with
        | none => exact run_sound okX1_readOne noCut 100 (brF (h0 hp) ⟨rfl, hin, rfl⟩)
        | some f =>
          obtain ⟨ho, ⟨hd1, hd0, hd2⟩, hf1, hf2⟩ := h1 f hp
          refine run_sound okX1_readOne noCut 100 (brT ho ?_)
          unfold oneM
          dsimp only
          by_cases q3 : srt p = 40
          · rw [if_pos q3]
            refine brT q3 ⟨6, _, rmo (by omega) (by decide), c_adv hL ht ht2 hin, ?_⟩
            rintro h' w ⟨hin2, rfl⟩
            obtain ⟨hle2, r42, r52, hcr2, rfl⟩ := id hin2
            refine brF (by decide) ⟨d1 + 1, _, rmo (by omega) (by decide), c_readBracket hL ht ht2 hd0 hf1 _ _ hin2, ?_⟩
            rintro h' w ⟨hin3, rfl⟩
            exact ⟨nbB, hin3, rfl⟩
          · rw [if_neg q3]
            refine brF q3 ⟨6, _, rmo (by omega) (by decide), c_adv hL ht ht2 hin, ?_⟩
            rintro h' w ⟨hin2, rfl⟩
            obtain ⟨hle2, r42, r52, hcr2, rfl⟩ := id hin2
            refine brT rfl ⟨d2, _, rmo (by omega) (by decide), hf2 _ _ hin2, ?_⟩
            rintro h' w ⟨hin3, rfl⟩
            obtain ⟨hle3, r43, r53, hcr3, rfl⟩ := id hin3
            refine brBB (fun z => ?_) (fun z => ?_)
            · rw [if_neg (by rw [z]; decide)]
              exact ⟨rfl, hin3, rfl⟩
            · rw [if_pos z]
              refine ⟨1, _, rmo (by omega) (by decide), c_add 10 0 hin3, ?_⟩
              rintro h' w ⟨hin4, rfl⟩
              exact ⟨rfl, hin4, rfl⟩
      refine brF (fun z => q (Or.inl z)) (brF (fun z => q (Or.inr z)) (br (fun _ => t36) (fun h1 => br (fun _ => t36) (fun h2 => absurd q2 (fun z => z.elim h1 h2)))))
    · have e : oneP prev (S.2 2) t p = (false, p) := (if_neg q).trans (if_neg q2)
      rw [e]
      exact brF (fun z => q (Or.inl z)) (brF (fun z => q (Or.inr z)) (brF (fun z => q2 (Or.inl z)) (brF (fun z => q2 (Or.inr z)) ⟨rfl, hin, rfl⟩)))
/-- the rules at a depth: or, not, one -/
def mkLv (tp : List Int32) (t : Nat) (prev : Option (GF × GF × GF)) : GF × GF × GF :=
  (binP (binP (notP (cmpP (binP (binP (oneP (prev.map (fun f => (f.1, f.2.2))) tp t) tp t (isS 42)) tp t isPM) tp t) (prev.map (fun f => f.2.1)) tp t) tp t (isS 8)) tp t (isS 7),
   notP (cmpP (binP (binP (oneP (prev.map (fun f => (f.1, f.2.2))) tp t) tp t (isS 42)) tp t isPM) tp t) (prev.map (fun f => f.2.1)) tp t,
   oneP (prev.map (fun f => (f.1, f.2.2))) tp t)
def lvP (tp : List Int32) (t : Nat) : Nat → GF × GF × GF
  | 0 => mkLv tp t none
  | n + 1 => mkLv tp t (some (lvP tp t n))
def LvOk (l : Launch) (X : List (List Int32)) (S : CS) (T : AH) (t d : Nat) (o : Int32) (f : GF × GF × GF) : Prop :=
  GC l X S T t (13 + d) sgX1_readOr o f.1 ∧ GC l X S T t (11 + d) sgX1_readNot o f.2.1 ∧ GC l X S T t (7 + d) sgX1_readOne o f.2.2
theorem mkLv_ok (hL : CLen S) (ht : S.1 11 = nI t) (ht2 : t ≤ 160) {o : Int32} {prev : Option (GF × GF × GF)} (h0 : prev = none → ¬ o < 5) (h1 : ∀ f, prev = some f → o < 5 ∧ 8 ≤ d ∧ LvOk l X S T t (d - 8) (o + 1) f) : LvOk l X S T t d o (mkLv (S.2 2) t prev) := by
  have c1 : GC l X S T t (7 + d) sgX1_readOne o (oneP (prev.map (fun f => (f.1, f.2.2))) (S.2 2) t) := by
    rw [show 7 + d = (6 + d) + 1 by omega]
    cases prev with
    | none => exact c_readOne (d1 := 6) (d2 := 0) hL ht ht2 (by omega) (fun _ => h0 rfl) (fun f z => by cases z)
    | some f =>
      obtain ⟨ho, hd, hf1, hf2, hf3⟩ := h1 f rfl
      exact c_readOne (d1 := 13 + (d - 8)) (d2 := 7 + (d - 8)) hL ht ht2 (by omega) (fun z => by cases z) (fun g z => by cases z; exact ⟨ho, ⟨by omega, by omega, by omega⟩, hf1, hf3⟩)
  have c2 := c_readTerm hL ht ht2 (d := 7 + d) (by omega) c1
  have c3 := c_readSum hL ht ht2 (d := 7 + d + 1) (by omega) c2
  have c4 := c_readCompared hL ht ht2 (d := 7 + d + 1 + 1) (by omega) c3
  have c5 : GC l X S T t (7 + d + 1 + 1 + 1 + 1) sgX1_readNot o (notP (cmpP (binP (binP (oneP (prev.map (fun f => (f.1, f.2.2))) (S.2 2) t) (S.2 2) t (isS 42)) (S.2 2) t isPM) (S.2 2) t) (prev.map (fun f => f.2.1)) (S.2 2) t) := by
    cases prev with
    | none => exact c_readNot (d1 := 0) hL ht ht2 (by omega) c4 (fun _ => h0 rfl) (fun f z => by cases z) (by omega)
    | some f =>
      obtain ⟨ho, hd, hf1, hf2, hf3⟩ := h1 f rfl
      exact c_readNot (d1 := 11 + (d - 8)) hL ht ht2 (by omega) c4 (fun z => by cases z) (fun g z => by cases z; exact ⟨ho, hf2⟩) (by omega)
  have c6 := c_readAnd hL ht ht2 (d := 7 + d + 1 + 1 + 1 + 1) (by omega) c5
  have c7 := c_readOr hL ht ht2 (d := 7 + d + 1 + 1 + 1 + 1 + 1) (by omega) c6
  refine ⟨?_, ?_, c1⟩
  · rw [show 13 + d = 7 + d + 1 + 1 + 1 + 1 + 1 + 1 by omega]
    exact c7
  · rw [show 11 + d = 7 + d + 1 + 1 + 1 + 1 by omega]
    exact c5
theorem lvP_ok (hL : CLen S) (ht : S.1 11 = nI t) (ht2 : t ≤ 160) : ∀ n, n ≤ 5 → LvOk l X S T t (8 * n) (nI (5 - n)) (lvP (S.2 2) t n)
  | 0, _ => mkLv_ok hL ht ht2 (fun _ => by decide) (fun f z => by cases z)
  | n + 1, hn => by
    have ih := lvP_ok hL ht ht2 n (by omega)
    refine mkLv_ok hL ht ht2 (fun z => by cases z) (fun f z => ?_)
    cases z
    refine ⟨nI_lt (b := 5) (by omega) (by decide), by omega, ?_⟩
    rw [show 8 * (n + 1) - 8 = 8 * n by omega, nI_1, show 5 - (n + 1) + 1 = 5 - n by omega]
    exact ih
end READ2
