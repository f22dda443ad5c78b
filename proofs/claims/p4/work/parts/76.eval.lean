/-! THE CLASS's code, run -/
section EVAL
variable {l : Launch} {X : List (List Int32)} {S : CS} {T : AH} {hp : AH}
def pushS (v : Int32) (st : List Int32) : List Int32 := if st.length < 160 then v :: st else st
def InK (S : CS) (T : AH) (st : List Int32) (h : AH) : Prop := ∃ r7 : List Int32, r7.length = 160 ∧ st.length ≤ 160 ∧ r7.take st.length = st.reverse ∧ h = encC (cN (cR S 7 r7) 35 (nI st.length)) ++ T
set_option maxRecDepth 100000 in
theorem c_push (v : Int32) {st : List Int32} {h : AH} (hin : InK S T st h) : Ctr l 1 X sgX0_push [.ref 3, .int v] h (fun h w => InK S T (pushS v st) h ∧ w = none) := by
  obtain ⟨r7, h7, hl, e7, rfl⟩ := hin
  refine Ctr.of okX0_push rfl (Nat.le_of_ble_eq_true rfl) (run_sound okX0_push noCut 100 ?_)
  by_cases hc : st.length < 160
  · have e : pushS v st = v :: st := if_pos hc
    refine brT (nI_lt (b := 160) hc (by decide)) (kH (c_put (xs := r7) rfl rfl (by omega)) (by decide) (And.intro rfl (And.intro trivial ⟨rfl, ?_, rfl⟩)))
    rw [e]
    refine ⟨r7.set st.length v, by simpa using h7, by simp; omega, ?_, ?_⟩
    · rw [List.length_cons, List.reverse_cons]
      exact take_push e7 (by simp) (by omega) v
    · show encC (cN (cR S 7 (putF r7 (nI st.length) v)) 35 (nI st.length + 1)) ++ T = _
      rw [nI_1, putF_nI (by omega)]
      rfl
  · have e : pushS v st = st := if_neg hc
    refine brF (nI_nlt (b := 160) (by omega) (by omega)) ⟨rfl, ?_, rfl⟩
    rw [e]
    exact ⟨r7, h7, hl, e7, rfl⟩
set_option maxRecDepth 100000 in
theorem c_pop {st : List Int32} {h : AH} (hin : InK S T st h) : Ctr l 1 X sgX0_pop [.ref 3] h (fun h w => InK S T st.tail h ∧ w = some (.int (st.headD 0))) := by
  obtain ⟨r7, h7, hl, e7, rfl⟩ := hin
  refine Ctr.of okX0_pop rfl (Nat.le_of_ble_eq_true rfl) (run_sound okX0_pop noCut 100 ?_)
  cases st with
  | nil => exact brF (show ¬ (0 : Int32) < nI 0 by decide) ⟨⟨r7, h7, hl, e7, rfl⟩, rfl⟩
  | cons v r =>
    have hn : r.length + 1 ≤ 160 := hl
    have e1 : nI (r.length + 1) - Int32.ofInt 1 = nI r.length := nI_pred _
    have et : r7.take r.length = r.reverse := by
      have z := congrArg (List.take r.length) e7
      rw [List.length_cons, List.take_take, Nat.min_eq_left (by omega)] at z
      rw [z, List.reverse_cons, List.take_append_of_le_length (by simp)]
      exact List.take_of_length_le (by simp)
    have ev : r7.getD r.length 0 = v := by
      have z := congrArg (fun q : List Int32 => q[r.length]?) e7
      simp only [List.length_cons, List.reverse_cons] at z
      rw [List.getElem?_take_of_lt (by omega), List.getElem?_append_right (by simp)] at z
      rw [List.getD_eq_getElem?_getD, z]
      simp
    refine brT ?_ (And.intro rfl (And.intro trivial ?_))
    · show (0 : Int32) < nI (r.length + 1)
      exact nI_lt (a := 0) (by omega) (by omega)
    · have ca : Ans l 0 X sgX7_at [.ref 7, .int (nI (r.length + 1) - Int32.ofInt 1)] (encC (cN (cR S 7 r7) 35 (nI (r.length + 1) - Int32.ofInt 1)) ++ T) v := by
        rw [e1, ← ev, ← atF_nI _ (show r.length < 2 ^ 31 by omega)]
        exact c_at (xs := r7) rfl (by omega)
      refine kH ca (by decide) ⟨⟨r7, h7, show r.length ≤ 160 by omega, et, ?_⟩, rfl⟩
      rw [e1]
      rfl
def jnF (s a b : Int32) : Int32 :=
  if s = 8 then bI (¬ a = 0 ∧ ¬ b = 0) else if s = 42 then a * b else if s = 43 then a + b else if s = 45 then a - b else if s = 60 then bI (a < b) else if s = 61 then bI (a = b) else bI (¬ a = 0 ∨ ¬ b = 0)
set_option maxRecDepth 100000 in
theorem c_joined (s a b : Int32) : Ans l 0 X sgX0_joined [.int s, .int a, .int b] hp (jnF s a b) := by
  refine Ctr.of okX0_joined rfl (Nat.le_of_ble_eq_true rfl) (run_sound okX0_joined noCut 100 ?_)
  refine And.intro (fun h => ?_) (And.intro (fun h => ?_) (And.intro (fun h => ?_) (And.intro (fun h => ?_) (And.intro (fun h => ?_) (And.intro (fun h => ?_) (And.intro (fun h => ?_) trivial))))))
  · have n8 : ¬ s = 8 := h (8, 93) (by decide)
    have n42 : ¬ s = 42 := h (42, 67) (by decide)
    have n43 : ¬ s = 43 := h (43, 59) (by decide)
    have n45 : ¬ s = 45 := h (45, 63) (by decide)
    have n60 : ¬ s = 60 := h (60, 71) (by decide)
    have n61 : ¬ s = 61 := h (61, 82) (by decide)
    have e : jnF s a b = bI (¬ a = 0 ∨ ¬ b = 0) := by
      unfold jnF
      rw [if_neg n8, if_neg n42, if_neg n43, if_neg n45, if_neg n60, if_neg n61]
    rw [e]
    exact br (fun h1 => br (fun h2 => ⟨rfl, some_int (bIe0 (fun z => z.elim (fun y => y h1) (fun y => y h2)))⟩) (fun h2 => ⟨rfl, some_int (bIe1 (Or.inr h2))⟩)) (fun h1 => ⟨rfl, some_int (bIe1 (Or.inl h1))⟩)
  · subst h
    exact br (fun h1 => ⟨rfl, some_int (bIe0 (fun z => z.1 h1))⟩) (fun h1 => br (fun h2 => ⟨rfl, some_int (bIe0 (fun z => z.2 h2))⟩) (fun h2 => ⟨rfl, some_int (bIe1 ⟨h1, h2⟩)⟩))
  · subst h; exact ⟨rfl, rfl⟩
  · subst h; exact ⟨rfl, rfl⟩
  · subst h; exact ⟨rfl, rfl⟩
  · subst h
    exact br (fun h1 => ⟨rfl, some_int (bIe0 (fun z => absurd z (Int32.not_lt.mpr h1)))⟩) (fun h1 => ⟨rfl, some_int (bIe1 (Int32.not_le.mp h1))⟩)
  · subst h
    exact br (fun h1 => ⟨rfl, some_int (bIe1 h1)⟩) (fun h1 => ⟨rfl, some_int (bIe0 h1)⟩)
def stepC (w who : Int32) (st : List Int32) (x : Int32 × Int32) : List Int32 :=
  if x.1 = 2 then pushS x.2 st else if x.1 = 3 then pushS (if x.2 = 5 then who else bitF w x.2) st
  else if x.1 = 9 then pushS (bI (st.headD 0 = 0)) st.tail else if x.1 = 10 then pushS (-(st.headD 0)) st.tail
  else pushS (jnF x.1 (st.tail.headD 0) (st.headD 0)) st.tail.tail
theorem stepC_3 {w who v : Int32} {st : List Int32} : stepC w who st (3, v) = pushS (if v = 5 then who else bitF w v) st := by
  have a : ¬ (3 : Int32) = 2 := by decide
  exact (if_neg a).trans (if_pos rfl)
theorem stepC_9 {w who v : Int32} {st : List Int32} : stepC w who st (9, v) = pushS (bI (st.headD 0 = 0)) st.tail := by
  have a : ¬ (9 : Int32) = 2 := by decide
  have b : ¬ (9 : Int32) = 3 := by decide
  exact (if_neg a).trans ((if_neg b).trans (if_pos rfl))
theorem stepC_10 {w who v : Int32} {st : List Int32} : stepC w who st (10, v) = pushS (-(st.headD 0)) st.tail := by
  have a : ¬ (10 : Int32) = 2 := by decide
  have b : ¬ (10 : Int32) = 3 := by decide
  have c : ¬ (10 : Int32) = 9 := by decide
  exact (if_neg a).trans ((if_neg b).trans ((if_neg c).trans (if_pos rfl)))
abbrev stQ (S : CS) (T : AH) (st : List Int32) : AH → Option Value → Prop := fun h w => InK S T st h ∧ w = none
set_option maxRecDepth 100000 in
set_option maxHeartbeats 4000000 in
theorem c_step (s v w who : Int32) {st : List Int32} {h : AH} (hin : InK S T st h) : Ctr l 2 X sgX0_step [.ref 3, .int s, .int v, .int w, .int who] h (stQ S T (stepC w who st (s, v))) := by
  obtain ⟨r7, h7, hl, e7, rfl⟩ := id hin
  have bin : ¬ s = 2 → ¬ s = 3 → ¬ s = 9 → ¬ s = 10 → WP l (rmD 2 0 0) X sgX0_step kX0_step (stQ S T (stepC w who st (s, v))) 32 [some (.ref 3), some (.int s), some (.int v), some (.int w), some (.int who), none] [] (encC (cN (cR S 7 r7) 35 (nI st.length)) ++ T) 0 0 := by
    intro n2 n3 n9 n10
    have e : stepC w who st (s, v) = pushS (jnF s (st.tail.headD 0) (st.headD 0)) st.tail.tail := (if_neg n2).trans ((if_neg n3).trans ((if_neg n9).trans (if_neg n10)))
    rw [e]
    refine run_sound okX0_step noCut 100 ⟨1, _, by decide, c_pop hin, ?_⟩
    rintro h' w' ⟨hin1, rfl⟩
    obtain ⟨r71, h71, hl1, e71, rfl⟩ := id hin1
    refine ⟨1, _, by decide, c_pop hin1, ?_⟩
    rintro h' w' ⟨hin2, rfl⟩
    obtain ⟨r72, h72, hl2, e72, rfl⟩ := id hin2
    refine kH (c_joined _ _ _) (by decide) ⟨1, _, by decide, c_push _ hin2, ?_⟩
    rintro h' w' ⟨hin3, rfl⟩
    exact ⟨rfl, hin3, rfl⟩
  refine Ctr.of okX0_step rfl (Nat.le_of_ble_eq_true rfl) (run_sound okX0_step (fun i => Nat.beq i 32) 100 ?_)
  refine And.intro (fun h => ?_) (And.intro (fun h => ?_) (And.intro (fun h => ?_) (And.intro (fun h => ?_) (And.intro (fun h => ?_) (And.intro (fun h => ?_) (And.intro (fun h => ?_) (And.intro (fun h => ?_) (And.intro (fun h => ?_) (And.intro (fun h => ?_) trivial)))))))))
  · have no : ∀ k : Int32, 2 ≤ k.toInt → k.toInt ≤ 10 → ¬ s = k := fun k h1 h2 z => by subst z; omega
    exact bin (no _ (by decide) (by decide)) (no _ (by decide) (by decide)) (no _ (by decide) (by decide)) (no _ (by decide) (by decide))
  · subst h
    refine ⟨1, _, by decide, c_push v hin, ?_⟩
    rintro h' w' ⟨hin3, rfl⟩
    exact ⟨rfl, hin3, rfl⟩
  · subst h
    have e : stepC w who st (Int32.ofInt (2 + 1), v) = pushS (if v = 5 then who else bitF w v) st := stepC_3
    rw [e]
    refine br (fun h1 => ?_) (fun h1 => ?_)
    · have h1 : v = 5 := h1
      rw [if_pos h1]
      refine ⟨1, _, by decide, c_push who hin, ?_⟩
      rintro h' w' ⟨hin3, rfl⟩
      exact ⟨rfl, hin3, rfl⟩
    · have h1 : ¬ v = 5 := h1
      rw [if_neg h1]
      refine kH (c_bit w v) (by decide) ⟨1, _, by decide, c_push (bitF w v) hin, ?_⟩
      rintro h' w' ⟨hin3, rfl⟩
      exact ⟨rfl, hin3, rfl⟩
  · subst h; exact bin (by decide) (by decide) (by decide) (by decide)
  · subst h; exact bin (by decide) (by decide) (by decide) (by decide)
  · subst h; exact bin (by decide) (by decide) (by decide) (by decide)
  · subst h; exact bin (by decide) (by decide) (by decide) (by decide)
  · subst h; exact bin (by decide) (by decide) (by decide) (by decide)
  · subst h
    refine ⟨1, _, by decide, c_pop hin, ?_⟩
    rintro h' w' ⟨hin1, rfl⟩
    obtain ⟨r71, h71, hl1, e71, rfl⟩ := id hin1
    have e : ∀ x : Int32, x = bI (st.headD 0 = 0) → ∀ (h' : AH) (w' : Option Value), InK S T (pushS x st.tail) h' ∧ w' = none → InK S T (stepC w who st (9, v)) h' ∧ w' = none := by
      intro x hx h' w' z
      have e : stepC w who st (9, v) = pushS (bI (st.headD 0 = 0)) st.tail := stepC_9
      rw [e, ← hx]
      exact z
    refine br (fun h1 => ⟨1, _, by decide, c_push 1 hin1, ?_⟩) (fun h1 => ⟨1, _, by decide, c_push 0 hin1, ?_⟩)
    · rintro h' w' z
      obtain ⟨z1, z2⟩ := e 1 (bI_t h1).symm h' w' z
      subst z2
      exact ⟨rfl, z1, rfl⟩
    · rintro h' w' z
      obtain ⟨z1, z2⟩ := e 0 (bI_f h1).symm h' w' z
      subst z2
      exact ⟨rfl, z1, rfl⟩
  · subst h
    refine ⟨1, _, by decide, c_pop hin, ?_⟩
    rintro h' w' ⟨hin1, rfl⟩
    obtain ⟨r71, h71, hl1, e71, rfl⟩ := id hin1
    have e : stepC w who st (Int32.ofInt (2 + 1 + 1 + 1 + 1 + 1 + 1 + 1 + 1), v) = pushS (-(st.headD 0)) st.tail := stepC_10
    rw [e]
    refine ⟨1, _, by decide, c_push _ hin1, ?_⟩
    rintro h' w' ⟨hin3, rfl⟩
    exact ⟨rfl, hin3, rfl⟩
/-- the stack as it comes -/
def InW (S : CS) (T : AH) (h : AH) : Prop := ∃ (r7 : List Int32) (m : Int32), r7.length = 160 ∧ h = encC (cN (cR S 7 r7) 35 m) ++ T
theorem InK.w {st : List Int32} {h : AH} (hin : InK S T st h) : InW S T h := by
  obtain ⟨r7, h7, -, -, e⟩ := hin
  exact ⟨r7, _, h7, e⟩
/-- a part of the code, run -/
def segC (c : List (Int32 × Int32)) (a b : Nat) : List (Int32 × Int32) := (c.drop a).take (b - a)
def runC (w who : Int32) (c : List (Int32 × Int32)) (st : List Int32) : List Int32 := c.foldl (stepC w who) st
def valC (w who : Int32) (c : List (Int32 × Int32)) : Int32 := (runC w who c []).headD 0
theorem segC_cons {c : List (Int32 × Int32)} {a b : Nat} (h : a < b) (hb : b ≤ c.length) : segC c a b = c.getD a (0, 0) :: segC c (a + 1) b := by
  unfold segC
  rw [show b - a = (b - (a + 1)) + 1 by omega, List.drop_eq_getElem_cons (show a < c.length by omega), List.take_succ_cons]
  rw [List.getD_eq_getElem?_getD, List.getElem?_eq_getElem (show a < c.length by omega)]
  rfl
theorem CR.at4 {r4 r5 : List Int32} {c : List (Int32 × Int32)} (h : CR r4 r5 c) {i : Nat} (hi : i < c.length) : r4.getD i 0 = (c.getD i (0, 0)).1 ∧ r5.getD i 0 = (c.getD i (0, 0)).2 := by
  obtain ⟨h4, h5, hl, e4, e5⟩ := h
  constructor
  · have z := congrArg (fun q : List Int32 => q[i]?) e4
    simp only [List.getElem?_take_of_lt hi, List.getElem?_map] at z
    rw [List.getD_eq_getElem?_getD, z, List.getD_eq_getElem?_getD]
    cases c[i]? <;> rfl
  · have z := congrArg (fun q : List Int32 => q[i]?) e5
    simp only [List.getElem?_take_of_lt hi, List.getElem?_map] at z
    rw [List.getD_eq_getElem?_getD, z, List.getD_eq_getElem?_getD]
    cases c[i]? <;> rfl
set_option maxRecDepth 100000 in
set_option maxHeartbeats 4000000 in
theorem c_valueOf {c : List (Int32 × Int32)} (hcr : CR (S.2 4) (S.2 5) c) (h6 : (S.2 6).length < 2 ^ 31) {part : Int32} {a b : Nat} (ha : atF (S.2 6) part = nI a) (hb : atF (S.2 6) (part + 1) = nI b) (hab : a ≤ b) (hbc : b ≤ c.length) (w who : Int32) {h : AH} (hin : InW S T h) :
    Ctr l 3 X sgX0_valueOf [.ref 3, .int part, .int w, .int who] h (fun h x => InW S T h ∧ x = some (.int (valC w who (segC c a b)))) := by
  obtain ⟨r7, m7, h7, rfl⟩ := hin
  have hc160 : c.length ≤ 160 := hcr.2.2.1
  have ca : ∀ S' : CS, S'.2 6 = S.2 6 → Ans l 0 X sgX7_at [.ref 6, .int part] (encC S' ++ T) (nI a) := by
    intro S' hS'
    rw [← ha, ← hS']
    exact c_at (xs := S'.2 6) rfl (by rw [hS']; exact h6)
  have cb : ∀ S' : CS, S'.2 6 = S.2 6 → Ans l 0 X sgX7_at [.ref 6, .int (part + Int32.ofInt 1)] (encC S' ++ T) (nI b) := by
    intro S' hS'
    have hb' : atF (S.2 6) (part + Int32.ofInt 1) = nI b := hb
    rw [← hb', ← hS']
    exact c_at (xs := S'.2 6) rfl (by rw [hS']; exact h6)
  have key : ∀ i, i ≤ b → a ≤ i → ∀ (st : List Int32) (h : AH), InK S T st h → runC w who (segC c i b) st = runC w who (segC c a b) [] → WP l (rmD 3 0 0) X sgX0_valueOf kX0_valueOf (fun h x => InW S T h ∧ x = some (.int (valC w who (segC c a b)))) 15 [some (.ref 3), some (.int part), some (.int w), some (.int who), some (.int (nI b)), some (.int (nI i))] [] h 0 0 := by
    refine down (fun hai st h hin hr => ?_) (fun i hi ih hai st h hin hr => ?_)
    · obtain ⟨r7, h7, hl, e7, rfl⟩ := id hin
      refine run_sound okX0_valueOf (fun i => Nat.beq i 15) 100 (brT (Int32.le_refl _) ⟨1, _, by decide, c_pop hin, ?_⟩)
      rintro h' w' ⟨hin2, rfl⟩
      refine ⟨hin2.w, some_int ?_⟩
      unfold valC
      rw [← hr]
      have e : segC c b b = [] := by unfold segC; rw [Nat.sub_self]; rfl
      rw [e]
      rfl
    · obtain ⟨r7, h7, hl, e7, rfl⟩ := id hin
      have hx := hcr.at4 (show i < c.length by omega)
      rw [segC_cons hi hbc] at hr
      have c4 : Ans l 0 X sgX7_at [.ref 4, .int (nI i)] (encC (cN (cR S 7 r7) 35 (nI st.length)) ++ T) (c.getD i (0, 0)).1 := by
        rw [← hx.1, ← atF_nI _ (show i < 2 ^ 31 by omega)]
        exact c_at (xs := S.2 4) rfl (by rw [hcr.1]; decide)
      have c5 : Ans l 0 X sgX7_at [.ref 5, .int (nI i)] (encC (cN (cR S 7 r7) 35 (nI st.length)) ++ T) (c.getD i (0, 0)).2 := by
        rw [← hx.2, ← atF_nI _ (show i < 2 ^ 31 by omega)]
        exact c_at (xs := S.2 5) rfl (by rw [hcr.2.1]; decide)
      refine run_sound okX0_valueOf (fun i => Nat.beq i 15) 100 (brF (nI_ge hi (by omega)) (kH c4 (by decide) (kH c5 (by decide) ⟨2, _, by decide, c_step _ _ w who hin, ?_⟩)))
      rintro h' w' ⟨hin2, rfl⟩
      have ih := ih (by omega) _ _ hin2 hr
      rw [← nI_1 i] at ih
      exact ih
  refine Ctr.of okX0_valueOf rfl (Nat.le_of_ble_eq_true rfl) (run_sound okX0_valueOf (fun i => Nat.beq i 15) 100 ?_)
  exact And.intro trivial (kH (cb (cN (cR S 7 r7) 35 0) rfl) (by decide) (kH (ca (cN (cR S 7 r7) 35 0) rfl) (by decide) (key a hab (Nat.le_refl _) [] _ ⟨r7, h7, by decide, rfl, rfl⟩ rfl)))
def trC (who : Int32) (c : List (Int32 × Int32)) : Nat → Int32
  | 0 => 0
  | w + 1 => if valC (nI w) who c = 0 then trC who c w else trC who c w ||| ((1 : Int32) <<< (nI w &&& 31))
set_option maxRecDepth 100000 in
set_option maxHeartbeats 4000000 in
theorem c_truths {c : List (Int32 × Int32)} (hcr : CR (S.2 4) (S.2 5) c) (h6 : (S.2 6).length < 2 ^ 31) {part : Int32} {a b : Nat} (ha : atF (S.2 6) part = nI a) (hb : atF (S.2 6) (part + 1) = nI b) (hab : a ≤ b) (hbc : b ≤ c.length) (who : Int32) {h : AH} (hin : InW S T h) :
    Ctr l 4 X sgX0_truths [.ref 3, .int part, .int who] h (fun h x => InW S T h ∧ x = some (.int (trC who (segC c a b) 32))) := by
  obtain ⟨r7, m7, h7, rfl⟩ := id hin
  refine Ctr.of okX0_truths rfl (Nat.le_of_ble_eq_true rfl) (run_sound okX0_truths (fun i => Nat.beq i 4) 100 ?_)
  have key : ∀ j, j ≤ 32 → ∀ (h : AH), InW S T h → WP l (rmD 4 0 0) X sgX0_truths kX0_truths (fun h x => InW S T h ∧ x = some (.int (trC who (segC c a b) 32))) 4 [some (.ref 3), some (.int part), some (.int who), some (.int (trC who (segC c a b) j)), some (.int (nI j))] [] h 0 0 := by
    refine down (fun h hin => ?_) (fun j hj ih h hin => ?_)
    · obtain ⟨r7, m7, h7, rfl⟩ := id hin
      exact run_sound okX0_truths (fun i => Nat.beq i 4) 100 (brT (Int32.le_refl _) ⟨hin, rfl⟩)
    · obtain ⟨r7, m7, h7, rfl⟩ := id hin
      refine run_sound okX0_truths (fun i => Nat.beq i 4) 100 (brF (ge_no (n := 32) rfl hj (by decide)) ⟨3, _, by decide, c_valueOf hcr h6 ha hb hab hbc (nI j) who hin, ?_⟩)
      rintro h' w' ⟨hin2, rfl⟩
      obtain ⟨r72, m72, h72, rfl⟩ := id hin2
      refine br (fun q => ?_) (fun q => ?_)
      · have ih := ih _ hin2
        rw [show trC who (segC c a b) (j + 1) = trC who (segC c a b) j from if_pos q, ← nI_1 j] at ih
        exact ih
      · have ih := ih _ hin2
        rw [show trC who (segC c a b) (j + 1) = trC who (segC c a b) j ||| ((1 : Int32) <<< (nI j &&& 31)) from if_neg q, ← nI_1 j] at ih
        exact ih
  exact key 0 (Nat.zero_le _) _ hin
end EVAL
