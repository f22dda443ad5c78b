theorem down {P : Nat → Prop} {N : Nat} (fin : P N) (step : ∀ j, j < N → P (j + 1) → P j) : ∀ j, j ≤ N → P j := by
  intro j hj
  obtain ⟨k, rfl⟩ : ∃ k, N = j + k := ⟨N - j, by omega⟩
  clear hj
  induction k generalizing j with
  | zero => exact fin
  | succ k ih => exact step j (by omega) (ih (j + 1) (by rw [show j + 1 + k = j + (k + 1) by omega]; exact fin) (fun i hi h => step i (by omega) h))
/-- the class's rows are no longer than a thousand -/
def CLen (S : CS) : Prop := ∀ k, (S.2 k).length ≤ 1000
theorem CLen.lt {S : CS} (h : CLen S) (k : Nat) : (S.2 k).length < 2 ^ 31 := Nat.lt_of_le_of_lt (h k) (by decide)
theorem CLen.num {S : CS} (h : CLen S) (k : Nat) (v : Int32) : CLen (cN S k v) := h
theorem CLen.row {S : CS} (h : CLen S) (k : Nat) (v : List Int32) (hv : v.length ≤ 1000) : CLen (cR S k v) := by
  intro j
  show (uf S.2 k v j).length ≤ 1000
  unfold uf
  split
  · exact hv
  · exact h j
section FITS
variable {l : Launch} {X : List (List Int32)} {S : CS} {T : AH}
def sideF (S : CS) (t who which : Int32) : Int32 := atF (if which = 0 then S.2 10 else S.2 11) (t * 5 + who)
set_option maxRecDepth 100000 in
theorem c_side (hL : CLen S) (t who which : Int32) : Ans l 1 X sgX5_side [.ref 9, .int t, .int who, .int which] (encC S ++ T) (sideF S t who which) := by
  refine Ctr.of okX5_side rfl (Nat.le_of_ble_eq_true rfl) (run_sound okX5_side noCut 100 ?_)
  refine br (fun h1 => ?_) (fun h1 => ?_)
  · refine kH (c_at (xs := S.2 10) rfl (hL.lt _)) (by decide) ⟨rfl, some_int ?_⟩
    unfold sideF; rw [if_pos h1]; rfl
  · refine kH (c_at (xs := S.2 11) rfl (hL.lt _)) (by decide) ⟨rfl, some_int ?_⟩
    unfold sideF; rw [if_neg h1]; rfl
def costF (S : CS) (t who : Int32) : Int32 := atF (S.2 12) (t * 5 + who)
set_option maxRecDepth 100000 in
theorem c_costOf (hL : CLen S) (t who : Int32) : Ans l 1 X sgX5_costOf [.ref 9, .int t, .int who] (encC S ++ T) (costF S t who) := by
  refine Ctr.of okX5_costOf rfl (Nat.le_of_ble_eq_true rfl) (run_sound okX5_costOf noCut 100 ?_)
  exact kH (c_at (xs := S.2 12) rfl (hL.lt _)) (by decide) ⟨rfl, rfl⟩
def partF (S : CS) (k part : Int32) : Int32 := atF (S.2 16) (3 * k + part)
set_option maxRecDepth 100000 in
theorem c_sayingPart (hL : CLen S) (k part : Int32) : Ans l 1 X sgX4_sayingPart [.ref 13, .int k, .int part] (encC S ++ T) (partF S k part) := by
  refine Ctr.of okX4_sayingPart rfl (Nat.le_of_ble_eq_true rfl) (run_sound okX4_sayingPart noCut 100 ?_)
  exact kH (c_at (xs := S.2 16) rfl (hL.lt _)) (by decide) ⟨rfl, rfl⟩
set_option maxRecDepth 100000 in
theorem c_isText (t : Int32) : Ans l 1 X sgX7_isText [.ref 0, .int t] (encC S ++ T) (bI (0 ≤ t ∧ t < S.1 93)) := by
  refine Ctr.of okX7_isText rfl (Nat.le_of_ble_eq_true rfl) (run_sound okX7_isText noCut 100 ?_)
  exact kH (c_isBelow _ _) (by decide) ⟨nar_bI, rfl, rfl⟩
set_option maxRecDepth 100000 in
theorem c_isSpeaker (t : Int32) : Ans l 1 X sgX7_isSpeaker [.ref 0, .int t] (encC S ++ T) (bI (0 ≤ t ∧ t < S.1 133)) := by
  refine Ctr.of okX7_isSpeaker rfl (Nat.le_of_ble_eq_true rfl) (run_sound okX7_isSpeaker noCut 100 ?_)
  exact kH (c_isBelow _ _) (by decide) ⟨nar_bI, rfl, rfl⟩
def onceF (S : CS) (t : Int32) : Int32 := sideF S t 0 0
set_option maxRecDepth 100000 in
theorem c_onceOf (hL : CLen S) (t : Int32) : Ans l 2 X sgX7_onceOf [.ref 0, .int t] (encC S ++ T) (onceF S t) := by
  refine Ctr.of okX7_onceOf rfl (Nat.le_of_ble_eq_true rfl) (run_sound okX7_onceOf noCut 100 ?_)
  exact kH (c_side hL _ _ _) (by decide) ⟨rfl, rfl⟩
def lawF (S : CS) : Int32 := onceF S (S.1 135)
set_option maxRecDepth 100000 in
theorem c_lawful (hL : CLen S) : Ans l 3 X sgX7_lawful [.ref 0] (encC S ++ T) (lawF S) := by
  refine Ctr.of okX7_lawful rfl (Nat.le_of_ble_eq_true rfl) (run_sound okX7_lawful noCut 100 ?_)
  exact kH (c_onceOf hL _) (by decide) ⟨rfl, rfl⟩
def turnsP (n more : Int32) : Prop := 0 < more + 2 ∧ n - n / (more + 2) * (more + 2) = 0
def turnsF (n more : Int32) : Int32 := if more + 2 ≤ 0 then 0 else if n - n / (more + 2) * (more + 2) = 0 then 1 else 0
theorem nar_01 {x : Int32} (h : x = 0 ∨ x = 1) : narrow .boolean (.int x) = .int x := by rcases h with rfl | rfl <;> rfl
set_option maxRecDepth 100000 in
theorem c_turnsAt {hp : AH} (n more : Int32) : Ans l 0 X sgX7_turnsAt [.int n, .int more] hp (turnsF n more) := by
  refine Ctr.of okX7_turnsAt rfl (Nat.le_of_ble_eq_true rfl) (run_sound okX7_turnsAt noCut 100 ?_)
  refine br (fun h1 => ⟨rfl, rfl, some_int ?_⟩) (fun h1 => And.intro (fun z => h1 (by rw [z]; exact Int32.le_refl _)) (br (fun h2 => ⟨rfl, rfl, some_int ?_⟩) (fun h2 => ⟨rfl, rfl, some_int ?_⟩)))
  · exact (if_pos h1).symm
  · exact ((if_neg (c := more + 2 ≤ 0) h1).trans (if_pos (c := n - n / (more + 2) * (more + 2) = 0) h2)).symm
  · exact ((if_neg (c := more + 2 ≤ 0) h1).trans (if_neg (c := n - n / (more + 2) * (more + 2) = 0) h2)).symm
def canF (kind more n p q : Int32) : Int32 :=
  if kind = 1 then p &&& (q ^^^ -1) else if kind = 2 then q &&& (p ^^^ -1)
  else if kind = 3 then (if turnsF n more = 0 then p &&& (q ^^^ -1) else q &&& (p ^^^ -1))
  else if kind = 4 then (p ^^^ q) ^^^ -1
  else if kind = 5 then (if n < more then q &&& (p ^^^ -1) else p ^^^ -1)
  else p ^^^ q
set_option maxRecDepth 100000 in
theorem c_canSay {hp : AH} (kind more n p q : Int32) : Ans l 1 X sgX7_canSay [.int kind, .int more, .int n, .int p, .int q] hp (canF kind more n p q) := by
  refine Ctr.of okX7_canSay rfl (Nat.le_of_ble_eq_true rfl) (run_sound okX7_canSay noCut 100 ?_)
  refine And.intro (fun h => ⟨rfl, some_int ?_⟩) (And.intro (fun h => ⟨rfl, some_int ?_⟩) (And.intro (fun h => ⟨rfl, some_int ?_⟩) (And.intro (fun h => kH (c_turnsAt _ _) (by decide) (br (fun h1 => ⟨rfl, some_int ?_⟩) (fun h1 => ⟨rfl, some_int ?_⟩))) (And.intro (fun h => ⟨rfl, some_int ?_⟩) (And.intro (fun h => br (fun h1 => ⟨rfl, some_int ?_⟩) (fun h1 => ⟨rfl, some_int ?_⟩)) trivial)))))
  · have n1 : ¬ kind = 1 := fun z => by subst z; revert h; decide
    have n2 : ¬ kind = 2 := fun z => by subst z; revert h; decide
    have n3 : ¬ kind = 3 := fun z => by subst z; revert h; decide
    have n4 : ¬ kind = 4 := fun z => by subst z; revert h; decide
    have n5 : ¬ kind = 5 := fun z => by subst z; revert h; decide
    simp only [canF, if_neg n1, if_neg n2, if_neg n3, if_neg n4, if_neg n5]
  · subst h; rfl
  · subst h; rfl
  · subst h; exact (if_pos h1 : (if turnsF n more = 0 then p &&& (q ^^^ -1) else q &&& (p ^^^ -1)) = _).symm
  · subst h; exact (if_neg h1 : (if turnsF n more = 0 then p &&& (q ^^^ -1) else q &&& (p ^^^ -1)) = _).symm
  · subst h; rfl
  · subst h; exact (if_pos h1 : (if n < more then q &&& (p ^^^ -1) else p ^^^ -1) = _).symm
  · subst h; exact (if_neg h1 : (if n < more then q &&& (p ^^^ -1) else p ^^^ -1) = _).symm
def firstF (S : CS) (k : Int32) : Int32 := sideF S (partF S k 1) (partF S k 0) (partF S k 2)
def secondF (S : CS) (k : Int32) : Int32 := sideF S (partF S k 1) (partF S k 0) (1 - partF S k 2)
set_option maxRecDepth 100000 in
theorem c_firstSaid (hL : CLen S) (k : Int32) : Ans l 2 X sgX7_firstSaid [.ref 0, .int k] (encC S ++ T) (firstF S k) := by
  refine Ctr.of okX7_firstSaid rfl (Nat.le_of_ble_eq_true rfl) (run_sound okX7_firstSaid noCut 100 ?_)
  exact kH (c_sayingPart hL _ _) (by decide) (kH (c_sayingPart hL _ _) (by decide) (kH (c_sayingPart hL _ _) (by decide) (kH (c_side hL _ _ _) (by decide) ⟨rfl, rfl⟩)))
set_option maxRecDepth 100000 in
theorem c_secondSaid (hL : CLen S) (k : Int32) : Ans l 2 X sgX7_secondSaid [.ref 0, .int k] (encC S ++ T) (secondF S k) := by
  refine Ctr.of okX7_secondSaid rfl (Nat.le_of_ble_eq_true rfl) (run_sound okX7_secondSaid noCut 100 ?_)
  exact kH (c_sayingPart hL _ _) (by decide) (kH (c_sayingPart hL _ _) (by decide) (kH (c_sayingPart hL _ _) (by decide) (kH (c_side hL _ _ _) (by decide) ⟨rfl, rfl⟩)))
def nextF (S : CS) (s t turned n : Int32) : Int32 := canF (atF (S.2 14) s) (atF (S.2 15) s) n (sideF S t s turned) (sideF S t s (1 - turned))
set_option maxRecDepth 100000 in
theorem c_sayableNext (hL : CLen S) (s t turned n : Int32) : Ans l 2 X sgX7_sayableNext [.ref 0, .int s, .int t, .int turned, .int n] (encC S ++ T) (nextF S s t turned n) := by
  refine Ctr.of okX7_sayableNext rfl (Nat.le_of_ble_eq_true rfl) (run_sound okX7_sayableNext noCut 100 ?_)
  exact kH (c_side hL _ _ _) (by decide) (kH (c_side hL _ _ _) (by decide) (kH (c_at (xs := S.2 14) rfl (hL.lt _)) (by decide) (kH (c_at (xs := S.2 15) rfl (hL.lt _)) (by decide) (kH (c_canSay _ _ _ _ _) (by decide) ⟨rfl, rfl⟩))))
def asF (S : CS) (k kind : Int32) : Int32 := canF kind (atF (S.2 15) (partF S k 0)) k (firstF S k) (secondF S k)
set_option maxRecDepth 100000 in
theorem c_sayableAs (hL : CLen S) (k kind : Int32) : Ans l 3 X sgX7_sayableAs [.ref 0, .int k, .int kind] (encC S ++ T) (asF S k kind) := by
  refine Ctr.of okX7_sayableAs rfl (Nat.le_of_ble_eq_true rfl) (run_sound okX7_sayableAs noCut 100 ?_)
  exact kH (c_sayingPart hL _ _) (by decide) (kH (c_at (xs := S.2 15) rfl (hL.lt _)) (by decide) (kH (c_firstSaid hL _) (by decide) (kH (c_secondSaid hL _) (by decide) (kH (c_canSay _ _ _ _ _) (by decide) ⟨rfl, rfl⟩))))
def sayF (S : CS) (k : Int32) : Int32 := asF S k (atF (S.2 14) (partF S k 0))
set_option maxRecDepth 100000 in
theorem c_sayable (hL : CLen S) (k : Int32) : Ans l 4 X sgX7_sayable [.ref 0, .int k] (encC S ++ T) (sayF S k) := by
  refine Ctr.of okX7_sayable rfl (Nat.le_of_ble_eq_true rfl) (run_sound okX7_sayable noCut 100 ?_)
  exact kH (c_sayingPart hL _ _) (by decide) (kH (c_at (xs := S.2 14) rfl (hL.lt _)) (by decide) (kH (c_sayableAs hL _ _) (by decide) ⟨rfl, rfl⟩))
/-- worlds that fit the first sayings -/
def fitF (S : CS) : Nat → Int32
  | 0 => lawF S
  | k + 1 => fitF S k &&& sayF S (nI k)
set_option maxRecDepth 100000 in
theorem c_fittingFirst (hL : CLen S) {m : Nat} (hm : m ≤ 12) : Ans l 5 X sgX7_fittingFirst [.ref 0, .int (nI m)] (encC S ++ T) (fitF S m) := by
  refine Ctr.of okX7_fittingFirst rfl (Nat.le_of_ble_eq_true rfl) (run_sound okX7_fittingFirst (fun i => Nat.beq i 5) 100 ?_)
  refine kH (c_lawful hL) (by decide) ?_
  have key : ∀ j, j ≤ m → WP l (rmD 5 0 0) X sgX7_fittingFirst kX7_fittingFirst (fun h w => h = encC S ++ T ∧ w = some (.int (fitF S m))) 5 [some (.ref 0), some (.int (nI m)), some (.int (fitF S j)), some (.int (nI j))] [] (encC S ++ T) 0 0 := by
    refine down ?_ (fun j hj ih => ?_)
    · refine run_sound okX7_fittingFirst (fun i => Nat.beq i 5) 100 (brT (Int32.le_refl _) ⟨rfl, rfl⟩)
    · refine run_sound okX7_fittingFirst (fun i => Nat.beq i 5) 100 (brF (nI_ge hj (by omega)) (kH (c_sayable hL _) (by decide) ?_))
      rw [show fitF S (j + 1) = fitF S j &&& sayF S (nI j) from rfl, ← nI_1 j] at ih
      exact ih
  exact key 0 (Nat.zero_le _)
end FITS
