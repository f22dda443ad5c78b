/-! parts 20 .. 30, joined -/
section
-- 20.state
/-! THE STATES: the class's objects at places 0 .. 26, the reference's at 27 .. 45; numbers by 10 times the place and the slot, rows by their place (the reference's: by the slot) -/
abbrev CS : Type := (Nat → Int32) × (Nat → List Int32)
abbrev MS : Type := (Nat → Int32) × (Nat → List Int32) × List Int64 × List Int64
def uf {α : Type} (f : Nat → α) (k : Nat) (v : α) : Nat → α := fun j => if j = k then v else f j
def cN (S : CS) (k : Nat) (v : Int32) : CS := (uf S.1 k v, S.2)
def cR (S : CS) (k : Nat) (v : List Int32) : CS := (S.1, uf S.2 k v)
def mN (M : MS) (k : Nat) (v : Int32) : MS := (uf M.1 k v, M.2)
def mR (M : MS) (k : Nat) (v : List Int32) : MS := (M.1, uf M.2.1 k v, M.2.2)
def encC (S : CS) : AH := [AO 7 [.ref 1, .ref 3, .ref 8, .ref 9, .ref 13, .ref 17, .ref 21, .ref 26, .int (S.1 8)],
  AO 6 [.ref 2, .int (S.1 11), .int (S.1 12), .int (S.1 13), .int (S.1 14), .int (S.1 15)], AI (S.2 2),
  AO 0 [.ref 4, .ref 5, .ref 6, .ref 7, .int (S.1 34), .int (S.1 35)], AI (S.2 4), AI (S.2 5), AI (S.2 6), AI (S.2 7),
  AO 1 [.ref 1, .ref 3],
  AO 5 [.ref 10, .ref 11, .ref 12, .int (S.1 93)], AI (S.2 10), AI (S.2 11), AI (S.2 12),
  AO 4 [.ref 14, .ref 15, .ref 16, .int (S.1 133), .int (S.1 134), .int (S.1 135)], AI (S.2 14), AI (S.2 15), AI (S.2 16),
  AO 4 [.ref 18, .ref 19, .ref 20, .int (S.1 173), .int (S.1 174), .int (S.1 175)], AI (S.2 18), AI (S.2 19), AI (S.2 20),
  AO 3 [.ref 22, .ref 23, .ref 24, .ref 25], AI (S.2 22), AI (S.2 23), AI (S.2 24), AI (S.2 25),
  AO 2 [.int (S.1 260), .int (S.1 261), .int (S.1 262), .int (S.1 263)]]
def encM (M : MS) : AH := [AO 8 [.int (M.1 0), .ref 28, .ref 29, .int (M.1 3), .ref 30, .ref 31, .int (M.1 6), .ref 32, .ref 33, .int (M.1 9), .int (M.1 10), .int (M.1 11), .int (M.1 12), .int (M.1 13), .int (M.1 14), .ref 34, .ref 35, .ref 36, .ref 37, .ref 38, .ref 39, .int (M.1 21), .int (M.1 22), .int (M.1 23), .int (M.1 24), .ref 40, .ref 41, .int (M.1 27), .int (M.1 28), .int (M.1 29), .ref 42, .ref 43, .ref 44, .ref 45, .int (M.1 34), .int (M.1 35), .int (M.1 36)],
  AI (M.2.1 1), AI (M.2.1 2), AI (M.2.1 4), AI (M.2.1 5), AI (M.2.1 7), AI (M.2.1 8), AI (M.2.1 15), AI (M.2.1 16), AI (M.2.1 17), AI (M.2.1 18), AI (M.2.1 19), AI (M.2.1 20), AI (M.2.1 25), AI (M.2.1 26), AI (M.2.1 30), AI (M.2.1 31), AL M.2.2.1, AL M.2.2.2]
/-- whether, as a number -/
def bI (p : Prop) [Decidable p] : Int32 := if p then 1 else 0
theorem bI_t {p : Prop} [Decidable p] (h : p) : bI p = 1 := if_pos h
theorem bI_f {p : Prop} [Decidable p] (h : ¬ p) : bI p = 0 := if_neg h
theorem bI_0 {p : Prop} [Decidable p] : bI p = 0 ↔ ¬ p := by unfold bI; split <;> simp [*]
theorem bI_n0 {p : Prop} [Decidable p] : ¬ bI p = 0 ↔ p := by unfold bI; split <;> simp [*]
/-- a method that only answers -/
def Pur (l : Launch) (d : Nat) (g : Sig) (as : List Value) (v : Int32) : Prop := ∀ (X : List (List Int32)) (hp : AH), Ctr l d X g as hp (fun h w => h = hp ∧ w = some (.int v))
def PurL (l : Launch) (d : Nat) (g : Sig) (as : List Value) (v : Int64) : Prop := ∀ (X : List (List Int32)) (hp : AH), Ctr l d X g as hp (fun h w => h = hp ∧ w = some (.long v))
section CALLK
variable {l : Launch} {R : Room} {X : List (List Int32)} {as r : List Value} {hp : AH} {k n d nx : Nat} {cs : Sig} {P : AH → Option Value → Prop}
theorem kI {v : Int32} (h : Pur l d cs as v) (hr : d + 1 ≤ R.frames ∧ 8 + (sL cs + 11) + 64 * d ≤ R.locals ∧ k + sC cs ≤ R.cells ∧ n + sS cs ≤ R.slots) (kk : P hp (some (.int v))) :
    ∃ (d' : Nat) (Rq : AH → Option Value → Prop), (d' + 1 ≤ R.frames ∧ 8 + (sL cs + 11) + 64 * d' ≤ R.locals ∧ k + sC cs ≤ R.cells ∧ n + sS cs ≤ R.slots) ∧ Ctr l d' X cs as hp Rq ∧ ∀ hp' w, Rq hp' w → P hp' w :=
  ⟨d, _, hr, h X hp, fun hp' w hw => by obtain ⟨rfl, rfl⟩ := hw; exact kk⟩
theorem kL {v : Int64} (h : PurL l d cs as v) (hr : d + 1 ≤ R.frames ∧ 8 + (sL cs + 11) + 64 * d ≤ R.locals ∧ k + sC cs ≤ R.cells ∧ n + sS cs ≤ R.slots) (kk : P hp (some (.long v))) :
    ∃ (d' : Nat) (Rq : AH → Option Value → Prop), (d' + 1 ≤ R.frames ∧ 8 + (sL cs + 11) + 64 * d' ≤ R.locals ∧ k + sC cs ≤ R.cells ∧ n + sS cs ≤ R.slots) ∧ Ctr l d' X cs as hp Rq ∧ ∀ hp' w, Rq hp' w → P hp' w :=
  ⟨d, _, hr, h X hp, fun hp' w hw => by obtain ⟨rfl, rfl⟩ := hw; exact kk⟩
/-- a call whose world and answer are known -/
theorem kH {h1 : AH} {v : Option Value} (h : Ctr l d X cs as hp (fun h w => h = h1 ∧ w = v)) (hr : d + 1 ≤ R.frames ∧ 8 + (sL cs + 11) + 64 * d ≤ R.locals ∧ k + sC cs ≤ R.cells ∧ n + sS cs ≤ R.slots) (kk : P h1 v) :
    ∃ (d' : Nat) (Rq : AH → Option Value → Prop), (d' + 1 ≤ R.frames ∧ 8 + (sL cs + 11) + 64 * d' ≤ R.locals ∧ k + sC cs ≤ R.cells ∧ n + sS cs ≤ R.slots) ∧ Ctr l d' X cs as hp Rq ∧ ∀ hp' w, Rq hp' w → P hp' w :=
  ⟨d, _, hr, h, fun hp' w hw => by obtain ⟨rfl, rfl⟩ := hw; exact kk⟩
end CALLK
theorem br {a b c d : Prop} (h1 : a → b) (h2 : c → d) : (a → b) ∧ (c → d) := ⟨h1, h2⟩
theorem brT {q t f : Prop} (hq : q) (h : t) : (q → t) ∧ (¬ q → f) := ⟨fun _ => h, fun z => absurd hq z⟩
theorem brF {q t f : Prop} (hq : ¬ q) (h : f) : (q → t) ∧ (¬ q → f) := ⟨fun z => absurd z hq, fun _ => h⟩
def noCut : Nat → Bool := fun _ => false
theorem vp_inI {i : Int32} {n : Nat} (h0 : 0 ≤ i) (h1 : i.toNatClampNeg < n) : vp_in i n := fun z => z.elim (fun z => absurd z (Int32.not_lt.mpr h0)) (fun z => by omega)
end
section
-- 21.leaf
abbrev Ans (l : Launch) (d : Nat) (X : List (List Int32)) (g : Sig) (as : List Value) (hp : AH) (v : Int32) : Prop := Ctr l d X g as hp (fun h w => h = hp ∧ w = some (.int v))
abbrev AnsL (l : Launch) (d : Nat) (X : List (List Int32)) (g : Sig) (as : List Value) (hp : AH) (v : Int64) : Prop := Ctr l d X g as hp (fun h w => h = hp ∧ w = some (.long v))
theorem some_int {x y : Int32} (h : x = y) : (some (Value.int x)) = some (.int y) := by rw [h]
theorem bIe0 {p : Prop} [Decidable p] (h : ¬ p) : (0 : Int32) = bI p := (bI_f h).symm
theorem bIe1 {p : Prop} [Decidable p] (h : p) : (1 : Int32) = bI p := (bI_t h).symm
theorem nar_bI {p : Prop} [Decidable p] : narrow .boolean (.int (bI p)) = .int (bI p) := by
  unfold bI; split <;> rfl
/-- a branch on whether -/
theorem brB {p : Prop} [Decidable p] {A B : Prop} (h1 : ¬ p → A) (h2 : p → B) : (bI p = 0 → A) ∧ (¬ bI p = 0 → B) := ⟨fun h => h1 (bI_0.mp h), fun h => h2 (bI_n0.mp h)⟩
theorem brB' {p : Prop} [Decidable p] {A B : Prop} (h1 : ¬ p → A) (h2 : p → B) : (bI p = Int32.ofInt 0 → A) ∧ (¬ bI p = Int32.ofInt 0 → B) := brB h1 h2
set_option maxRecDepth 100000 in
theorem c_isBelow {l : Launch} {X : List (List Int32)} {hp : AH} (a b : Int32) : Ans l 0 X sgX7_isBelow [.int a, .int b] hp (bI (0 ≤ a ∧ a < b)) := by
  refine Ctr.of okX7_isBelow rfl (Nat.le_of_ble_eq_true rfl) (run_sound okX7_isBelow noCut 100 ?_)
  repeat' (first | refine br (fun _ => ?_) (fun _ => ?_) | refine And.intro rfl ?_)
  all_goals simp only [Int32.lt_iff_toInt_lt, Int32.le_iff_toInt_le, Int32.toInt_zero] at *
  · exact some_int (bIe0 (by omega))
  · exact some_int (bIe0 (by omega))
  · exact some_int (bIe1 (by omega))
set_option maxRecDepth 100000 in
theorem c_isByte {l : Launch} {X : List (List Int32)} {hp : AH} (a : Int32) : Ans l 0 X sgX7_isByte [.int a] hp (bI (0 ≤ a ∧ a ≤ 255)) := by
  refine Ctr.of okX7_isByte rfl (Nat.le_of_ble_eq_true rfl) (run_sound okX7_isByte noCut 100 ?_)
  repeat' (first | refine br (fun _ => ?_) (fun _ => ?_) | refine And.intro rfl ?_)
  all_goals simp only [Int32.lt_iff_toInt_lt, Int32.le_iff_toInt_le, Int32.toInt_zero, show (255 : Int32).toInt = 255 from rfl, show (Int32.ofInt 255).toInt = 255 from rfl] at *
  · exact some_int (bIe0 (by omega))
  · exact some_int (bIe0 (by omega))
  · exact some_int (bIe1 (by omega))
set_option maxRecDepth 100000 in
theorem c_isMore {l : Launch} {X : List (List Int32)} {hp : AH} (a : Int32) : Ans l 0 X sgX7_isMore [.int a] hp (bI (0 ≤ a ∧ a ≤ 9)) := by
  refine Ctr.of okX7_isMore rfl (Nat.le_of_ble_eq_true rfl) (run_sound okX7_isMore noCut 100 ?_)
  repeat' (first | refine br (fun _ => ?_) (fun _ => ?_) | refine And.intro rfl ?_)
  all_goals simp only [Int32.lt_iff_toInt_lt, Int32.le_iff_toInt_le, Int32.toInt_zero, show (9 : Int32).toInt = 9 from rfl, show (Int32.ofInt 9).toInt = 9 from rfl] at *
  · exact some_int (bIe0 (by omega))
  · exact some_int (bIe0 (by omega))
  · exact some_int (bIe1 (by omega))
set_option maxRecDepth 100000 in
theorem c_isKind {l : Launch} {X : List (List Int32)} {hp : AH} (a : Int32) : Ans l 1 X sgX7_isKind [.int a] hp (bI (0 ≤ a ∧ a < 6)) := by
  refine Ctr.of okX7_isKind rfl (Nat.le_of_ble_eq_true rfl) (run_sound okX7_isKind noCut 100 ?_)
  refine kH (c_isBelow _ _) (by decide) ?_
  exact ⟨nar_bI, rfl, rfl⟩
set_option maxRecDepth 100000 in
theorem c_isWorld {l : Launch} {X : List (List Int32)} {hp : AH} (a : Int32) : Ans l 1 X sgX7_isWorld [.int a] hp (bI (0 ≤ a ∧ a < 32)) := by
  refine Ctr.of okX7_isWorld rfl (Nat.le_of_ble_eq_true rfl) (run_sound okX7_isWorld noCut 100 ?_)
  refine kH (c_isBelow _ _) (by decide) ?_
  exact ⟨nar_bI, rfl, rfl⟩
/-- at, put: out of the row nothing -/
def atF (xs : List Int32) (i : Int32) : Int32 := if 0 ≤ i then xs.getD i.toNatClampNeg 0 else 0
def putF (xs : List Int32) (i v : Int32) : List Int32 := if 0 ≤ i then xs.set i.toNatClampNeg v else xs
theorem putF_len {xs : List Int32} {i v : Int32} : (putF xs i v).length = xs.length := by unfold putF; split <;> simp
theorem ge_of_not_lt {i : Int32} (h : ¬ i < 0) : 0 ≤ i := by
  rw [Int32.lt_iff_toInt_lt] at h; rw [Int32.le_iff_toInt_le]; omega
theorem nI_lt_len {i : Int32} {xs : List Int32} (h0 : 0 ≤ i) (hn : xs.length < 2 ^ 31) : Int32.ofNat xs.length ≤ i ↔ ¬ i.toNatClampNeg < xs.length := by
  rw [Int32.le_iff_toInt_le]
  have e1 : (Int32.ofNat xs.length).toInt = xs.length := Int32.toInt_ofNat_of_lt hn
  rw [e1]
  rw [Int32.le_iff_toInt_le, Int32.toInt_zero] at h0
  have e2 : (i.toNatClampNeg : Int) = i.toInt := by
    unfold Int32.toNatClampNeg
    omega
  omega
set_option maxRecDepth 100000 in
theorem c_at {l : Launch} {X : List (List Int32)} {hp : AH} {q : Nat} {xs : List Int32} {i : Int32} (hq : rowI X hp q = some xs) (hn : xs.length < 2 ^ 31) : Ans l 0 X sgX7_at [.ref q, .int i] hp (atF xs i) := by
  refine Ctr.of okX7_at rfl (Nat.le_of_ble_eq_true rfl) (run_sound okX7_at noCut 100 ?_)
  refine br (fun h1 => ⟨rfl, some_int ?_⟩) (fun h1 => Exists.intro xs (And.intro (rowA_of hq) (br (fun h2 => ⟨rfl, some_int ?_⟩) (fun h2 => Exists.intro xs (And.intro hq (And.intro ?_ ⟨rfl, some_int ?_⟩))))))
  · unfold atF
    rw [if_neg (fun z => absurd h1 (Int32.not_lt.mpr z))]
    rfl
  · have h0 := ge_of_not_lt h1
    have := (nI_lt_len h0 hn).mp h2
    unfold atF
    rw [if_pos h0, List.getD_eq_getElem?_getD, List.getElem?_eq_none (by omega)]
    rfl
  · have h0 := ge_of_not_lt h1
    exact vp_inI h0 (Classical.not_not.mp (fun z => h2 ((nI_lt_len h0 hn).mpr z)))
  · unfold atF
    rw [if_pos (ge_of_not_lt h1)]
set_option maxRecDepth 100000 in
theorem c_put {l : Launch} {X : List (List Int32)} {hp : AH} {q : Nat} {xs : List Int32} {i v : Int32} (hq : hp[q]? = some (AI xs)) (h1000 : Nat.ble 1000 q = false) (hn : xs.length < 2 ^ 31) : Ctr l 0 X sgX7_put [.ref q, .int i, .int v] hp (fun h w => h = hp.set q (AI (putF xs i v)) ∧ w = none) := by
  have hr : rowI X hp q = some xs := by unfold rowI; rw [h1000]; simp [hq]
  have hself : hp.set q (AI xs) = hp := by
    apply List.ext_getElem?
    intro j
    by_cases e : q = j
    · subst e
      rw [List.getElem?_set_self (List.getElem?_eq_some_iff.mp hq).1, hq]
    · rw [List.getElem?_set_ne e]
  refine Ctr.of okX7_put rfl (Nat.le_of_ble_eq_true rfl) (run_sound okX7_put noCut 100 ?_)
  refine br (fun h1 => ⟨rfl, ?_, rfl⟩) (fun h1 => Exists.intro xs (And.intro (rowA_of hr) (br (fun h2 => ⟨rfl, ?_, rfl⟩) (fun h2 => Exists.intro xs (And.intro hq (And.intro ?_ ⟨rfl, ?_, rfl⟩))))))
  · unfold putF
    rw [if_neg (fun z => absurd h1 (Int32.not_lt.mpr z)), hself]
  · have h0 := ge_of_not_lt h1
    have := (nI_lt_len h0 hn).mp h2
    unfold putF
    rw [if_pos h0, List.set_eq_of_length_le (l := xs) (by omega), hself]
  · have h0 := ge_of_not_lt h1
    exact vp_inI h0 (Classical.not_not.mp (fun z => h2 ((nI_lt_len h0 hn).mpr z)))
  · unfold putF
    rw [if_pos (ge_of_not_lt h1)]
def bitF (a i : Int32) : Int32 := (a.toUInt32 >>> (i.toUInt32 &&& Int32.toUInt32 31)).toInt32 &&& 1
set_option maxRecDepth 100000 in
theorem c_bit {l : Launch} {X : List (List Int32)} {hp : AH} (a i : Int32) : Ans l 0 X sgX7_bit [.int a, .int i] hp (bitF a i) :=
  Ctr.of okX7_bit rfl (Nat.le_of_ble_eq_true rfl) (run_sound okX7_bit noCut 100 ⟨rfl, rfl⟩)
def bitsF (a : Int32) : Int64 := a.toInt64 &&& 4294967295
set_option maxRecDepth 100000 in
theorem c_bits {l : Launch} {X : List (List Int32)} {hp : AH} (a : Int32) : AnsL l 0 X sgX7_bits [.int a] hp (bitsF a) :=
  Ctr.of okX7_bits rfl (Nat.le_of_ble_eq_true rfl) (run_sound okX7_bits noCut 100 ⟨rfl, rfl, rfl⟩)
def bc1 (x : Int32) : Int32 := x - ((x.toUInt32 >>> ((1 : Int32).toUInt32 &&& Int32.toUInt32 31)).toInt32 &&& 1431655765)
def bc2 (x : Int32) : Int32 := (x &&& 858993459) + ((x.toUInt32 >>> ((2 : Int32).toUInt32 &&& Int32.toUInt32 31)).toInt32 &&& 858993459)
def bc3 (x : Int32) : Int32 := (x + (x.toUInt32 >>> ((4 : Int32).toUInt32 &&& Int32.toUInt32 31)).toInt32) &&& 252645135
def bc4 (x : Int32) : Int32 := x + (x.toUInt32 >>> ((8 : Int32).toUInt32 &&& Int32.toUInt32 31)).toInt32
def bc5 (x : Int32) : Int32 := (x + (x.toUInt32 >>> ((16 : Int32).toUInt32 &&& Int32.toUInt32 31)).toInt32) &&& 63
/-- how many bits (Integer.bitCount) -/
def bcF (x : Int32) : Int32 := bc5 (bc4 (bc3 (bc2 (bc1 x))))
set_option maxRecDepth 100000 in
theorem c_bitCount {l : Launch} {X : List (List Int32)} {hp : AH} (x : Int32) : Ans l 0 X sgJ6_bitCount_0f7a4 [.int x] hp (bcF x) :=
  Ctr.of okJ6_bitCount_0f7a4 rfl (Nat.le_of_ble_eq_true rfl) (run_sound okJ6_bitCount_0f7a4 noCut 100 ⟨rfl, rfl⟩)
def fewerF (a b : Int32) : Int32 := if bcF a - bcF b < 0 ∨ (bcF a - bcF b = 0 ∧ a < b) then a else b
set_option maxRecDepth 100000 in
theorem c_fewer {l : Launch} {X : List (List Int32)} {hp : AH} (a b : Int32) : Ans l 1 X sgX7_fewer [.int a, .int b] hp (fewerF a b) := by
  refine Ctr.of okX7_fewer rfl (Nat.le_of_ble_eq_true rfl) (run_sound okX7_fewer noCut 100 ?_)
  refine kH (c_bitCount _) (by decide) ?_
  refine kH (c_bitCount _) (by decide) ?_
  refine br (fun h1 => ⟨rfl, some_int (if_pos (Or.inl h1)).symm⟩) (fun h1 => br (fun h2 => br (fun h3 => ⟨rfl, some_int ?_⟩) (fun h3 => ⟨rfl, some_int ?_⟩)) (fun h2 => ⟨rfl, some_int ?_⟩))
  · exact (if_neg (fun z => z.elim h1 (fun z => absurd z.2 (Int32.not_lt.mpr h3)))).symm
  · exact (if_pos (Or.inr ⟨h2, Int32.not_le.mp h3⟩)).symm
  · exact (if_neg (fun z => z.elim h1 (fun z => h2 z.1))).symm
end
section
-- 22.fits
theorem down {P : Nat → Prop} {N : Nat} (fin : P N) (step : ∀ j, j < N → P (j + 1) → P j) : ∀ j, j ≤ N → P j := by
  intro j hj
  obtain ⟨k, rfl⟩ : ∃ k, N = j + k := ⟨N - j, by omega⟩
  clear hj
  induction k generalizing j with
  | zero => exact fin
  | succ k ih => exact step j (by omega) (ih (j + 1) (by rw [show j + 1 + k = j + (k + 1) by omega]; exact fin) (fun i hi h => step i (by omega) h))
/-- the class's rows are no longer than a thousand -/
def CLen (S : CS) : Prop := ∀ k, (S.2 k).length ≤ 1000
theorem CLen.lt {S : CS} (h : CLen S) (k : Nat) : (S.2 k).length < 2 ^ 31 := Nat.lt_of_le_of_lt (h k) (by decide)
theorem CLen.num {S : CS} (h : CLen S) (k : Nat) (v : Int32) : CLen (cN S k v) := h
theorem CLen.row {S : CS} (h : CLen S) (k : Nat) (v : List Int32) (hv : v.length ≤ 1000) : CLen (cR S k v) := by
  intro j
  show (uf S.2 k v j).length ≤ 1000
  unfold uf
  split
  · exact hv
  · exact h j
section FITS
variable {l : Launch} {X : List (List Int32)} {S : CS} {T : AH}
def sideF (S : CS) (t who which : Int32) : Int32 := atF (if which = 0 then S.2 10 else S.2 11) (t * 5 + who)
set_option maxRecDepth 100000 in
theorem c_side (hL : CLen S) (t who which : Int32) : Ans l 1 X sgX5_side [.ref 9, .int t, .int who, .int which] (encC S ++ T) (sideF S t who which) := by
  refine Ctr.of okX5_side rfl (Nat.le_of_ble_eq_true rfl) (run_sound okX5_side noCut 100 ?_)
  refine br (fun h1 => ?_) (fun h1 => ?_)
  · refine kH (c_at (xs := S.2 10) rfl (hL.lt _)) (by decide) ⟨rfl, some_int ?_⟩
    unfold sideF; rw [if_pos h1]; rfl
  · refine kH (c_at (xs := S.2 11) rfl (hL.lt _)) (by decide) ⟨rfl, some_int ?_⟩
    unfold sideF; rw [if_neg h1]; rfl
def costF (S : CS) (t who : Int32) : Int32 := atF (S.2 12) (t * 5 + who)
set_option maxRecDepth 100000 in
theorem c_costOf (hL : CLen S) (t who : Int32) : Ans l 1 X sgX5_costOf [.ref 9, .int t, .int who] (encC S ++ T) (costF S t who) := by
  refine Ctr.of okX5_costOf rfl (Nat.le_of_ble_eq_true rfl) (run_sound okX5_costOf noCut 100 ?_)
  exact kH (c_at (xs := S.2 12) rfl (hL.lt _)) (by decide) ⟨rfl, rfl⟩
def partF (S : CS) (k part : Int32) : Int32 := atF (S.2 16) (3 * k + part)
set_option maxRecDepth 100000 in
theorem c_sayingPart (hL : CLen S) (k part : Int32) : Ans l 1 X sgX4_sayingPart [.ref 13, .int k, .int part] (encC S ++ T) (partF S k part) := by
  refine Ctr.of okX4_sayingPart rfl (Nat.le_of_ble_eq_true rfl) (run_sound okX4_sayingPart noCut 100 ?_)
  exact kH (c_at (xs := S.2 16) rfl (hL.lt _)) (by decide) ⟨rfl, rfl⟩
set_option maxRecDepth 100000 in
theorem c_isText (t : Int32) : Ans l 1 X sgX7_isText [.ref 0, .int t] (encC S ++ T) (bI (0 ≤ t ∧ t < S.1 93)) := by
  refine Ctr.of okX7_isText rfl (Nat.le_of_ble_eq_true rfl) (run_sound okX7_isText noCut 100 ?_)
  exact kH (c_isBelow _ _) (by decide) ⟨nar_bI, rfl, rfl⟩
set_option maxRecDepth 100000 in
theorem c_isSpeaker (t : Int32) : Ans l 1 X sgX7_isSpeaker [.ref 0, .int t] (encC S ++ T) (bI (0 ≤ t ∧ t < S.1 133)) := by
  refine Ctr.of okX7_isSpeaker rfl (Nat.le_of_ble_eq_true rfl) (run_sound okX7_isSpeaker noCut 100 ?_)
  exact kH (c_isBelow _ _) (by decide) ⟨nar_bI, rfl, rfl⟩
def onceF (S : CS) (t : Int32) : Int32 := sideF S t 0 0
set_option maxRecDepth 100000 in
theorem c_onceOf (hL : CLen S) (t : Int32) : Ans l 2 X sgX7_onceOf [.ref 0, .int t] (encC S ++ T) (onceF S t) := by
  refine Ctr.of okX7_onceOf rfl (Nat.le_of_ble_eq_true rfl) (run_sound okX7_onceOf noCut 100 ?_)
  exact kH (c_side hL _ _ _) (by decide) ⟨rfl, rfl⟩
def lawF (S : CS) : Int32 := onceF S (S.1 135)
set_option maxRecDepth 100000 in
theorem c_lawful (hL : CLen S) : Ans l 3 X sgX7_lawful [.ref 0] (encC S ++ T) (lawF S) := by
  refine Ctr.of okX7_lawful rfl (Nat.le_of_ble_eq_true rfl) (run_sound okX7_lawful noCut 100 ?_)
  exact kH (c_onceOf hL _) (by decide) ⟨rfl, rfl⟩
def turnsF (n more : Int32) : Int32 := if more + 2 ≤ 0 then 0 else if n - n / (more + 2) * (more + 2) = 0 then 1 else 0
set_option maxRecDepth 100000 in
theorem c_turnsAt {hp : AH} (n more : Int32) : Ans l 0 X sgX7_turnsAt [.int n, .int more] hp (turnsF n more) := by
  refine Ctr.of okX7_turnsAt rfl (Nat.le_of_ble_eq_true rfl) (run_sound okX7_turnsAt noCut 100 ?_)
  refine br (fun h1 => ⟨rfl, rfl, some_int ?_⟩) (fun h1 => And.intro (fun z => h1 (by rw [z]; exact Int32.le_refl _)) (br (fun h2 => ⟨rfl, rfl, some_int ?_⟩) (fun h2 => ⟨rfl, rfl, some_int ?_⟩)))
  · exact (if_pos h1).symm
  · exact ((if_neg (c := more + 2 ≤ 0) h1).trans (if_pos (c := n - n / (more + 2) * (more + 2) = 0) h2)).symm
  · exact ((if_neg (c := more + 2 ≤ 0) h1).trans (if_neg (c := n - n / (more + 2) * (more + 2) = 0) h2)).symm
def canF (kind more n p q : Int32) : Int32 :=
  if kind = 1 then p &&& (q ^^^ -1) else if kind = 2 then q &&& (p ^^^ -1)
  else if kind = 3 then (if turnsF n more = 0 then p &&& (q ^^^ -1) else q &&& (p ^^^ -1))
  else if kind = 4 then (p ^^^ q) ^^^ -1
  else if kind = 5 then (if n < more then q &&& (p ^^^ -1) else p ^^^ -1)
  else p ^^^ q
set_option maxRecDepth 100000 in
theorem c_canSay {hp : AH} (kind more n p q : Int32) : Ans l 1 X sgX7_canSay [.int kind, .int more, .int n, .int p, .int q] hp (canF kind more n p q) := by
  refine Ctr.of okX7_canSay rfl (Nat.le_of_ble_eq_true rfl) (run_sound okX7_canSay noCut 100 ?_)
  refine And.intro (fun h => ⟨rfl, some_int ?_⟩) (And.intro (fun h => ⟨rfl, some_int ?_⟩) (And.intro (fun h => ⟨rfl, some_int ?_⟩) (And.intro (fun h => kH (c_turnsAt _ _) (by decide) (br (fun h1 => ⟨rfl, some_int ?_⟩) (fun h1 => ⟨rfl, some_int ?_⟩))) (And.intro (fun h => ⟨rfl, some_int ?_⟩) (And.intro (fun h => br (fun h1 => ⟨rfl, some_int ?_⟩) (fun h1 => ⟨rfl, some_int ?_⟩)) trivial)))))
  · have n1 : ¬ kind = 1 := fun z => by subst z; revert h; decide
    have n2 : ¬ kind = 2 := fun z => by subst z; revert h; decide
    have n3 : ¬ kind = 3 := fun z => by subst z; revert h; decide
    have n4 : ¬ kind = 4 := fun z => by subst z; revert h; decide
    have n5 : ¬ kind = 5 := fun z => by subst z; revert h; decide
    simp only [canF, if_neg n1, if_neg n2, if_neg n3, if_neg n4, if_neg n5]
  · subst h; rfl
  · subst h; rfl
  · subst h; exact (if_pos h1 : (if turnsF n more = 0 then p &&& (q ^^^ -1) else q &&& (p ^^^ -1)) = _).symm
  · subst h; exact (if_neg h1 : (if turnsF n more = 0 then p &&& (q ^^^ -1) else q &&& (p ^^^ -1)) = _).symm
  · subst h; rfl
  · subst h; exact (if_pos h1 : (if n < more then q &&& (p ^^^ -1) else p ^^^ -1) = _).symm
  · subst h; exact (if_neg h1 : (if n < more then q &&& (p ^^^ -1) else p ^^^ -1) = _).symm
def firstF (S : CS) (k : Int32) : Int32 := sideF S (partF S k 1) (partF S k 0) (partF S k 2)
def secondF (S : CS) (k : Int32) : Int32 := sideF S (partF S k 1) (partF S k 0) (1 - partF S k 2)
set_option maxRecDepth 100000 in
theorem c_firstSaid (hL : CLen S) (k : Int32) : Ans l 2 X sgX7_firstSaid [.ref 0, .int k] (encC S ++ T) (firstF S k) := by
  refine Ctr.of okX7_firstSaid rfl (Nat.le_of_ble_eq_true rfl) (run_sound okX7_firstSaid noCut 100 ?_)
  exact kH (c_sayingPart hL _ _) (by decide) (kH (c_sayingPart hL _ _) (by decide) (kH (c_sayingPart hL _ _) (by decide) (kH (c_side hL _ _ _) (by decide) ⟨rfl, rfl⟩)))
set_option maxRecDepth 100000 in
theorem c_secondSaid (hL : CLen S) (k : Int32) : Ans l 2 X sgX7_secondSaid [.ref 0, .int k] (encC S ++ T) (secondF S k) := by
  refine Ctr.of okX7_secondSaid rfl (Nat.le_of_ble_eq_true rfl) (run_sound okX7_secondSaid noCut 100 ?_)
  exact kH (c_sayingPart hL _ _) (by decide) (kH (c_sayingPart hL _ _) (by decide) (kH (c_sayingPart hL _ _) (by decide) (kH (c_side hL _ _ _) (by decide) ⟨rfl, rfl⟩)))
def nextF (S : CS) (s t turned n : Int32) : Int32 := canF (atF (S.2 14) s) (atF (S.2 15) s) n (sideF S t s turned) (sideF S t s (1 - turned))
set_option maxRecDepth 100000 in
theorem c_sayableNext (hL : CLen S) (s t turned n : Int32) : Ans l 2 X sgX7_sayableNext [.ref 0, .int s, .int t, .int turned, .int n] (encC S ++ T) (nextF S s t turned n) := by
  refine Ctr.of okX7_sayableNext rfl (Nat.le_of_ble_eq_true rfl) (run_sound okX7_sayableNext noCut 100 ?_)
  exact kH (c_side hL _ _ _) (by decide) (kH (c_side hL _ _ _) (by decide) (kH (c_at (xs := S.2 14) rfl (hL.lt _)) (by decide) (kH (c_at (xs := S.2 15) rfl (hL.lt _)) (by decide) (kH (c_canSay _ _ _ _ _) (by decide) ⟨rfl, rfl⟩))))
def asF (S : CS) (k kind : Int32) : Int32 := canF kind (atF (S.2 15) (partF S k 0)) k (firstF S k) (secondF S k)
set_option maxRecDepth 100000 in
theorem c_sayableAs (hL : CLen S) (k kind : Int32) : Ans l 3 X sgX7_sayableAs [.ref 0, .int k, .int kind] (encC S ++ T) (asF S k kind) := by
  refine Ctr.of okX7_sayableAs rfl (Nat.le_of_ble_eq_true rfl) (run_sound okX7_sayableAs noCut 100 ?_)
  exact kH (c_sayingPart hL _ _) (by decide) (kH (c_at (xs := S.2 15) rfl (hL.lt _)) (by decide) (kH (c_firstSaid hL _) (by decide) (kH (c_secondSaid hL _) (by decide) (kH (c_canSay _ _ _ _ _) (by decide) ⟨rfl, rfl⟩))))
def sayF (S : CS) (k : Int32) : Int32 := asF S k (atF (S.2 14) (partF S k 0))
set_option maxRecDepth 100000 in
theorem c_sayable (hL : CLen S) (k : Int32) : Ans l 4 X sgX7_sayable [.ref 0, .int k] (encC S ++ T) (sayF S k) := by
  refine Ctr.of okX7_sayable rfl (Nat.le_of_ble_eq_true rfl) (run_sound okX7_sayable noCut 100 ?_)
  exact kH (c_sayingPart hL _ _) (by decide) (kH (c_at (xs := S.2 14) rfl (hL.lt _)) (by decide) (kH (c_sayableAs hL _ _) (by decide) ⟨rfl, rfl⟩))
/-- worlds that fit the first sayings -/
def fitF (S : CS) : Nat → Int32
  | 0 => lawF S
  | k + 1 => fitF S k &&& sayF S (nI k)
set_option maxRecDepth 100000 in
theorem c_fittingFirst (hL : CLen S) {m : Nat} (hm : m ≤ 12) : Ans l 5 X sgX7_fittingFirst [.ref 0, .int (nI m)] (encC S ++ T) (fitF S m) := by
  refine Ctr.of okX7_fittingFirst rfl (Nat.le_of_ble_eq_true rfl) (run_sound okX7_fittingFirst (fun i => Nat.beq i 5) 100 ?_)
  refine kH (c_lawful hL) (by decide) ?_
  have key : ∀ j, j ≤ m → WP l (rmD 5 0 0) X sgX7_fittingFirst kX7_fittingFirst (fun h w => h = encC S ++ T ∧ w = some (.int (fitF S m))) 5 [some (.ref 0), some (.int (nI m)), some (.int (fitF S j)), some (.int (nI j))] [] (encC S ++ T) 0 0 := by
    refine down ?_ (fun j hj ih => ?_)
    · refine run_sound okX7_fittingFirst (fun i => Nat.beq i 5) 100 (brT (Int32.le_refl _) ⟨rfl, rfl⟩)
    · refine run_sound okX7_fittingFirst (fun i => Nat.beq i 5) 100 (brF (nI_ge hj (by omega)) (kH (c_sayable hL _) (by decide) ?_))
      rw [show fitF S (j + 1) = fitF S j &&& sayF S (nI j) from rfl, ← nI_1 j] at ih
      exact ih
  exact key 0 (Nat.zero_le _)
end FITS
end
section
-- 23.fits2
theorem ge_end {s : Int32} {n : Nat} (hs : s = nI n) : s ≤ nI n := by rw [hs]; exact Int32.le_refl _
theorem ge_no {s : Int32} {n j : Nat} (hs : s = nI n) (h : j < n) (hn : n < 2 ^ 31) : ¬ s ≤ nI j := by rw [hs]; exact nI_ge h hn
/-- what holds of the class's numbers: texts, speakers, sayings -/
def CInv (S : CS) (nt ns nk : Nat) : Prop := CLen S ∧ S.1 93 = nI nt ∧ (1 ≤ nt ∧ nt ≤ 6) ∧ S.1 133 = nI ns ∧ ns ≤ 5 ∧ S.1 134 = nI nk ∧ nk ≤ 12
abbrev kR (S : CS) (T : AH) (v : Int32) : AH → Option Value → Prop := fun h w => h = encC S ++ T ∧ w = some (.int v)
abbrev kRL (S : CS) (T : AH) (v : Int64) : AH → Option Value → Prop := fun h w => h = encC S ++ T ∧ w = some (.long v)
section FITS2
variable {l : Launch} {X : List (List Int32)} {S : CS} {T : AH} {nt ns nk : Nat}
set_option maxRecDepth 100000 in
theorem c_fitting (hI : CInv S nt ns nk) : Ans l 6 X sgX7_fitting [.ref 0] (encC S ++ T) (fitF S nk) := by
  obtain ⟨hL, -, -, -, -, hk, hk12⟩ := hI
  refine Ctr.of okX7_fitting rfl (Nat.le_of_ble_eq_true rfl) (run_sound okX7_fitting noCut 100 ?_)
  have hc : Ans l 5 X sgX7_fittingFirst [.ref 0, .int (S.1 134)] (encC S ++ T) (fitF S nk) := by rw [hk]; exact c_fittingFirst hL hk12
  exact kH hc (by decide) ⟨rfl, rfl⟩
set_option maxRecDepth 100000 in
theorem c_worlds (hI : CInv S nt ns nk) : AnsL l 7 X sgX7_worlds [.ref 0] (encC S ++ T) (bitsF (fitF S nk)) := by
  refine Ctr.of okX7_worlds rfl (Nat.le_of_ble_eq_true rfl) (run_sound okX7_worlds noCut 100 ?_)
  exact kH (c_fitting hI) (by decide) (kH (c_bits _) (by decide) ⟨rfl, rfl, rfl⟩)
def cannotF (S : CS) : Nat → Nat → Int32
  | 0, _ => -1
  | m + 1, j => if fitF S (j + 1) = 0 then nI j else cannotF S m (j + 1)
set_option maxRecDepth 100000 in
theorem c_cannot (hI : CInv S nt ns nk) : Ans l 5 X sgX7_cannot [.ref 0] (encC S ++ T) (cannotF S nk 0) := by
  obtain ⟨hL, -, -, -, -, hk, hk12⟩ := hI
  refine Ctr.of okX7_cannot rfl (Nat.le_of_ble_eq_true rfl) (run_sound okX7_cannot (fun i => Nat.beq i 5) 100 ?_)
  refine kH (c_lawful hL) (by decide) ?_
  have key : ∀ j, j ≤ nk → cannotF S nk 0 = cannotF S (nk - j) j → WP l (rmD 5 0 0) X sgX7_cannot kX7_cannot (kR S T (cannotF S nk 0)) 5 [some (.ref 0), some (.int (fitF S j)), some (.int (nI j))] [] (encC S ++ T) 0 0 := by
    refine down (fun h => ?_) (fun j hj ih h => ?_)
    · rw [h, Nat.sub_self]
      exact run_sound okX7_cannot (fun i => Nat.beq i 5) 100 (brT (ge_end hk) ⟨rfl, rfl⟩)
    · rw [show nk - j = (nk - (j + 1)) + 1 by omega] at h
      refine run_sound okX7_cannot (fun i => Nat.beq i 5) 100 (brF (ge_no hk hj (by omega)) (kH (c_sayable hL _) (by decide) (br (fun h1 => ⟨rfl, some_int ?_⟩) (fun h1 => ?_))))
      · exact (h.trans (if_pos (c := fitF S (j + 1) = 0) h1)).symm
      · have ih := ih (h.trans (if_neg (c := fitF S (j + 1) = 0) h1))
        rw [show fitF S (j + 1) = fitF S j &&& sayF S (nI j) from rfl, ← nI_1 j] at ih
        exact ih
  exact key 0 (Nat.zero_le _) rfl
/-- without one -/
def woF (S : CS) (left : Int32) : Nat → Int32
  | 0 => lawF S
  | j + 1 => if nI j = left then woF S left j else woF S left j &&& sayF S (nI j)
set_option maxRecDepth 100000 in
theorem c_fittingWithout (hI : CInv S nt ns nk) (left : Int32) : Ans l 5 X sgX7_fittingWithout [.ref 0, .int left] (encC S ++ T) (woF S left nk) := by
  obtain ⟨hL, -, -, -, -, hk, hk12⟩ := hI
  refine Ctr.of okX7_fittingWithout rfl (Nat.le_of_ble_eq_true rfl) (run_sound okX7_fittingWithout (fun i => Nat.beq i 5) 100 ?_)
  refine kH (c_lawful hL) (by decide) ?_
  have key : ∀ j, j ≤ nk → WP l (rmD 5 0 0) X sgX7_fittingWithout kX7_fittingWithout (kR S T (woF S left nk)) 5 [some (.ref 0), some (.int left), some (.int (woF S left j)), some (.int (nI j))] [] (encC S ++ T) 0 0 := by
    refine down ?_ (fun j hj ih => ?_)
    · exact run_sound okX7_fittingWithout (fun i => Nat.beq i 5) 100 (brT (ge_end hk) ⟨rfl, rfl⟩)
    · refine run_sound okX7_fittingWithout (fun i => Nat.beq i 5) 100 (brF (ge_no hk hj (by omega)) (br (fun h1 => ?_) (fun h1 => kH (c_sayable hL _) (by decide) ?_)))
      · rw [show woF S left (j + 1) = woF S left j from if_pos h1, ← nI_1 j] at ih
        exact ih
      · rw [show woF S left (j + 1) = woF S left j &&& sayF S (nI j) from if_neg h1, ← nI_1 j] at ih
        exact ih
  exact key 0 (Nat.zero_le _)
def liesF (S : CS) (nk : Nat) : Nat → Int32
  | 0 => 0
  | k + 1 => if woF S (nI k) nk = 0 then liesF S nk k else liesF S nk k ||| (1 <<< (nI k &&& 31))
set_option maxRecDepth 100000 in
theorem c_lies (hI : CInv S nt ns nk) : Ans l 7 X sgX7_lies [.ref 0] (encC S ++ T) (if fitF S nk = 0 then liesF S nk nk else 0) := by
  have hI0 := hI
  obtain ⟨hL, -, -, -, -, hk, hk12⟩ := hI
  refine Ctr.of okX7_lies rfl (Nat.le_of_ble_eq_true rfl) (run_sound okX7_lies (fun i => Nat.beq i 9) 100 ?_)
  refine kH (c_fitting hI0) (by decide) (br (fun h0 => ?_) (fun h0 => ⟨rfl, some_int (if_neg (c := fitF S nk = 0) h0).symm⟩))
  rw [if_pos (c := fitF S nk = 0) h0]
  have key : ∀ j, j ≤ nk → WP l (rmD 7 0 0) X sgX7_lies kX7_lies (kR S T (liesF S nk nk)) 9 [some (.ref 0), some (.int (liesF S nk j)), some (.int (nI j))] [] (encC S ++ T) 0 0 := by
    refine down ?_ (fun j hj ih => ?_)
    · exact run_sound okX7_lies (fun i => Nat.beq i 9) 100 (brT (ge_end hk) ⟨rfl, rfl⟩)
    · refine run_sound okX7_lies (fun i => Nat.beq i 9) 100 (brF (ge_no hk hj (by omega)) (kH (c_fittingWithout hI0 _) (by decide) (br (fun h1 => ?_) (fun h1 => ?_))))
      · rw [show liesF S nk (j + 1) = liesF S nk j from if_pos h1, ← nI_1 j] at ih
        exact ih
      · rw [show liesF S nk (j + 1) = liesF S nk j ||| (1 <<< (nI j &&& 31)) from if_neg h1, ← nI_1 j] at ih
        exact ih
  exact key 0 (Nat.zero_le _)
/-- the sayings that a world does not fit -/
def misF (S : CS) (w : Int32) : Nat → Int32
  | 0 => 0
  | k + 1 => if bitF (sayF S (nI k)) w = 0 then misF S w k ||| (1 <<< (nI k &&& 31)) else misF S w k
set_option maxRecDepth 100000 in
theorem c_misfits (hI : CInv S nt ns nk) (w : Int32) : Ans l 5 X sgX7_misfits [.ref 0, .int w] (encC S ++ T) (misF S w nk) := by
  obtain ⟨hL, -, -, -, -, hk, hk12⟩ := hI
  refine Ctr.of okX7_misfits rfl (Nat.le_of_ble_eq_true rfl) (run_sound okX7_misfits (fun i => Nat.beq i 4) 100 ?_)
  have key : ∀ j, j ≤ nk → WP l (rmD 5 0 0) X sgX7_misfits kX7_misfits (kR S T (misF S w nk)) 4 [some (.ref 0), some (.int w), some (.int (misF S w j)), some (.int (nI j))] [] (encC S ++ T) 0 0 := by
    refine down ?_ (fun j hj ih => ?_)
    · exact run_sound okX7_misfits (fun i => Nat.beq i 4) 100 (brT (ge_end hk) ⟨rfl, rfl⟩)
    · refine run_sound okX7_misfits (fun i => Nat.beq i 4) 100 (brF (ge_no hk hj (by omega)) (kH (c_sayable hL _) (by decide) (kH (c_bit _ _) (by decide) (br (fun h1 => ?_) (fun h1 => ?_)))))
      · rw [show misF S w (j + 1) = misF S w j ||| (1 <<< (nI j &&& 31)) from if_pos h1, ← nI_1 j] at ih
        exact ih
      · rw [show misF S w (j + 1) = misF S w j from if_neg h1, ← nI_1 j] at ih
        exact ih
  exact key 0 (Nat.zero_le _)
def leastF (S : CS) (nk : Nat) : Nat → Int32
  | 0 => 4095
  | w + 1 => if bitF (lawF S) (nI w) = 1 then fewerF (misF S (nI w) nk) (leastF S nk w) else leastF S nk w
def leastA (S : CS) (nk : Nat) (what : Int32) : Int32 := if ¬ (0 ≤ what ∧ what < 2) then -2 else if lawF S = 0 then -1 else if what = 0 then bcF (leastF S nk 32) else leastF S nk 32
set_option maxRecDepth 100000 in
theorem c_least (hI : CInv S nt ns nk) (what : Int32) : Ans l 6 X sgX7_least [.ref 0, .int what] (encC S ++ T) (leastA S nk what) := by
  have hI0 := hI
  obtain ⟨hL, -, -, -, -, hk, hk12⟩ := hI
  refine Ctr.of okX7_least rfl (Nat.le_of_ble_eq_true rfl) (run_sound okX7_least (fun i => Nat.beq i 17) 100 ?_)
  refine kH (c_isBelow _ _) (by decide) (brB' (fun h => ⟨rfl, some_int (if_pos h).symm⟩) (fun h => kH (c_lawful hL) (by decide) (br (fun h1 => ⟨rfl, some_int ((if_neg (not_not_intro h)).trans (if_pos (c := lawF S = 0) h1)).symm⟩) (fun h1 => ?_))))
  have hv : leastA S nk what = if what = 0 then bcF (leastF S nk 32) else leastF S nk 32 := (if_neg (not_not_intro h)).trans (if_neg (c := lawF S = 0) h1)
  rw [hv]
  have key : ∀ j, j ≤ 32 → WP l (rmD 6 0 0) X sgX7_least kX7_least (kR S T (if what = 0 then bcF (leastF S nk 32) else leastF S nk 32)) 17 [some (.ref 0), some (.int what), some (.int (lawF S)), some (.int (leastF S nk j)), some (.int (nI j))] [] (encC S ++ T) 0 0 := by
    refine down ?_ (fun j hj ih => ?_)
    · refine run_sound okX7_least (fun i => Nat.beq i 17) 100 (brT (Int32.le_refl _) (br (fun h2 => kH (c_bitCount _) (by decide) ⟨rfl, some_int (if_pos h2).symm⟩) (fun h2 => ⟨rfl, some_int (if_neg h2).symm⟩)))
    · refine run_sound okX7_least (fun i => Nat.beq i 17) 100 (brF (ge_no (n := 32) rfl hj (by decide)) (kH (c_bit _ _) (by decide) (br (fun h2 => kH (c_misfits hI0 _) (by decide) (kH (c_fewer _ _) (by decide) ?_)) (fun h2 => ?_))))
      · rw [show leastF S nk (j + 1) = fewerF (misF S (nI j) nk) (leastF S nk j) from if_pos h2, ← nI_1 j] at ih
        exact ih
      · rw [show leastF S nk (j + 1) = leastF S nk j from if_neg h2, ← nI_1 j] at ih
        exact ih
  exact key 0 (Nat.zero_le _)
end FITS2
end
section
-- 24.fits3
section FITS3
variable {l : Launch} {X : List (List Int32)} {S : CS} {T : AH} {nt ns nk : Nat}
/-- were some mad -/
def madF (S : CS) (who : Int32) : Nat → Int32
  | 0 => lawF S
  | k + 1 => madF S who k &&& (if bitF who (partF S (nI k) 0) = 1 then asF S (nI k) 4 else sayF S (nI k))
set_option maxRecDepth 100000 in
theorem c_fittingWereMad (hI : CInv S nt ns nk) (who : Int32) : Ans l 5 X sgX7_fittingWereMad [.ref 0, .int who] (encC S ++ T) (madF S who nk) := by
  obtain ⟨hL, -, -, -, -, hk, hk12⟩ := hI
  refine Ctr.of okX7_fittingWereMad rfl (Nat.le_of_ble_eq_true rfl) (run_sound okX7_fittingWereMad (fun i => Nat.beq i 5) 100 ?_)
  refine kH (c_lawful hL) (by decide) ?_
  have key : ∀ j, j ≤ nk → ∀ x4, WP l (rmD 5 0 0) X sgX7_fittingWereMad kX7_fittingWereMad (kR S T (madF S who nk)) 5 [some (.ref 0), some (.int who), some (.int (madF S who j)), some (.int (nI j)), x4] [] (encC S ++ T) 0 0 := by
    refine down (fun x4 => ?_) (fun j hj ih x4 => ?_)
    · exact run_sound okX7_fittingWereMad (fun i => Nat.beq i 5) 100 (brT (ge_end hk) ⟨rfl, rfl⟩)
    · refine run_sound okX7_fittingWereMad (fun i => Nat.beq i 5) 100 (brF (ge_no hk hj (by omega)) (kH (c_sayingPart hL _ _) (by decide) (kH (c_bit _ _) (by decide) (br (fun h1 => ?_) (fun h1 => ?_)))))
      · refine brF (by decide) (kH (c_sayableAs hL _ _) (by decide) ?_)
        have ih := ih (some (.int 1))
        rw [show madF S who (j + 1) = madF S who j &&& asF S (nI j) 4 by rw [madF, if_pos (show bitF who (partF S (nI j) 0) = 1 from h1)], ← nI_1 j] at ih
        exact ih
      · refine brT rfl (kH (c_sayable hL _) (by decide) ?_)
        have ih := ih (some (.int 0))
        rw [show madF S who (j + 1) = madF S who j &&& sayF S (nI j) by rw [madF, if_neg (show ¬ bitF who (partF S (nI j) 0) = 1 from h1)], ← nI_1 j] at ih
        exact ih
  exact key 0 (Nat.zero_le _) none
def madL (S : CS) (nk : Nat) : Nat → Int32
  | 0 => -1
  | w + 1 => if madF S (nI w) nk = 0 then madL S nk w else if madL S nk w = -1 then nI w else fewerF (nI w) (madL S nk w)
def madA (S : CS) (ns nk : Nat) (what : Int32) : Int32 := if ¬ (0 ≤ what ∧ what < 2) then -2 else if what = 1 ∨ madL S nk (2 ^ ns) = -1 then madL S nk (2 ^ ns) else bcF (madL S nk (2 ^ ns))
theorem shl_nI : ∀ n, n ≤ 12 → (1 : Int32) <<< (nI n &&& 31) = nI (2 ^ n) := by decide +kernel
set_option maxRecDepth 100000 in
theorem c_mad (hI : CInv S nt ns nk) (what : Int32) : Ans l 6 X sgX7_mad [.ref 0, .int what] (encC S ++ T) (madA S ns nk what) := by
  have hI0 := hI
  obtain ⟨hL, -, -, hs, hs5, hk, hk12⟩ := hI
  have hp2 : 2 ^ ns ≤ 32 := Nat.le_trans (Nat.pow_le_pow_right (by decide) hs5) (by decide)
  have hsh : (1 : Int32) <<< (S.1 133 &&& 31) = nI (2 ^ ns) := by rw [hs]; exact shl_nI ns (by omega)
  refine Ctr.of okX7_mad rfl (Nat.le_of_ble_eq_true rfl) (run_sound okX7_mad (fun i => Nat.beq i 10) 100 ?_)
  refine kH (c_isBelow _ _) (by decide) (brB' (fun h => ⟨rfl, some_int (if_pos h).symm⟩) (fun h => ?_))
  have hv : madA S ns nk what = if what = 1 ∨ madL S nk (2 ^ ns) = -1 then madL S nk (2 ^ ns) else bcF (madL S nk (2 ^ ns)) := if_neg (not_not_intro h)
  rw [hv]
  have key : ∀ j, j ≤ 2 ^ ns → WP l (rmD 6 0 0) X sgX7_mad kX7_mad (kR S T (if what = 1 ∨ madL S nk (2 ^ ns) = -1 then madL S nk (2 ^ ns) else bcF (madL S nk (2 ^ ns)))) 10 [some (.ref 0), some (.int what), some (.int (madL S nk j)), some (.int (nI j))] [] (encC S ++ T) 0 0 := by
    refine down ?_ (fun j hj ih => ?_)
    · refine run_sound okX7_mad (fun i => Nat.beq i 10) 100 (brT (ge_end hsh) (br (fun h1 => ⟨rfl, some_int (if_pos (Or.inl h1)).symm⟩) (fun h1 => br (fun h2 => ⟨rfl, some_int (if_pos (Or.inr h2)).symm⟩) (fun h2 => kH (c_bitCount _) (by decide) ⟨rfl, some_int (if_neg (fun z => z.elim h1 h2)).symm⟩))))
    · refine run_sound okX7_mad (fun i => Nat.beq i 10) 100 (brF (ge_no hsh hj (by omega)) (kH (c_fittingWereMad hI0 _) (by decide) (br (fun h1 => ?_) (fun h1 => br (fun h2 => ?_) (fun h2 => kH (c_fewer _ _) (by decide) ?_)))))
      · rw [show madL S nk (j + 1) = madL S nk j from if_pos h1, ← nI_1 j] at ih
        exact ih
      · rw [show madL S nk (j + 1) = nI j from (if_neg (c := madF S (nI j) nk = 0) h1).trans (if_pos (c := madL S nk j = -1) h2), ← nI_1 j] at ih
        exact ih
      · rw [show madL S nk (j + 1) = fewerF (nI j) (madL S nk j) from (if_neg (c := madF S (nI j) nk = 0) h1).trans (if_neg (c := madL S nk j = -1) h2), ← nI_1 j] at ih
        exact ih
  exact key 0 (Nat.zero_le _)
/-- were a speaker of a kind -/
def allF (S : CS) (s kind : Int32) : Nat → Int32
  | 0 => -1
  | k + 1 => if partF S (nI k) 0 = s then allF S s kind k &&& asF S (nI k) kind else allF S s kind k
set_option maxRecDepth 100000 in
theorem c_allSayableWere (hI : CInv S nt ns nk) (s kind : Int32) : Ans l 4 X sgX7_allSayableWere [.ref 0, .int s, .int kind] (encC S ++ T) (allF S s kind nk) := by
  obtain ⟨hL, -, -, -, -, hk, hk12⟩ := hI
  refine Ctr.of okX7_allSayableWere rfl (Nat.le_of_ble_eq_true rfl) (run_sound okX7_allSayableWere (fun i => Nat.beq i 4) 100 ?_)
  have key : ∀ j, j ≤ nk → WP l (rmD 4 0 0) X sgX7_allSayableWere kX7_allSayableWere (kR S T (allF S s kind nk)) 4 [some (.ref 0), some (.int s), some (.int kind), some (.int (allF S s kind j)), some (.int (nI j))] [] (encC S ++ T) 0 0 := by
    refine down ?_ (fun j hj ih => ?_)
    · exact run_sound okX7_allSayableWere (fun i => Nat.beq i 4) 100 (brT (ge_end hk) ⟨rfl, rfl⟩)
    · refine run_sound okX7_allSayableWere (fun i => Nat.beq i 4) 100 (brF (ge_no hk hj (by omega)) (kH (c_sayingPart hL _ _) (by decide) (br (fun h1 => kH (c_sayableAs hL _ _) (by decide) ?_) (fun h1 => ?_))))
      · rw [show allF S s kind (j + 1) = allF S s kind j &&& asF S (nI j) kind from if_pos h1, ← nI_1 j] at ih
        exact ih
      · rw [show allF S s kind (j + 1) = allF S s kind j from if_neg h1, ← nI_1 j] at ih
        exact ih
  exact key 0 (Nat.zero_le _)
def kindsF (S : CS) (nk : Nat) (s w : Int32) : Nat → Int32
  | 0 => 0
  | k + 1 => if bitF (allF S s (nI k) nk) w = 1 then kindsF S nk s w k ||| (1 <<< (nI k &&& 31)) else kindsF S nk s w k
def kindsA (S : CS) (nk : Nat) (s w : Int32) : Int32 := if (0 ≤ s ∧ s < S.1 133) ∧ (0 ≤ w ∧ w < 32) then kindsF S nk s w 6 else -5
set_option maxRecDepth 100000 in
theorem c_kinds (hI : CInv S nt ns nk) (s w : Int32) : Ans l 5 X sgX7_kinds [.ref 0, .int s, .int w] (encC S ++ T) (kindsA S nk s w) := by
  refine Ctr.of okX7_kinds rfl (Nat.le_of_ble_eq_true rfl) (run_sound okX7_kinds (fun i => Nat.beq i 13) 100 ?_)
  refine kH (c_isSpeaker _) (by decide) (brB' (fun h => ⟨rfl, some_int (if_neg (fun z => h z.1)).symm⟩) (fun h => kH (c_isWorld _) (by decide) (brB' (fun h1 => ⟨rfl, some_int (if_neg (fun z => h1 z.2)).symm⟩) (fun h1 => ?_))))
  rw [show kindsA S nk s w = kindsF S nk s w 6 from if_pos ⟨h, h1⟩]
  have key : ∀ j, j ≤ 6 → WP l (rmD 5 0 0) X sgX7_kinds kX7_kinds (kR S T (kindsF S nk s w 6)) 13 [some (.ref 0), some (.int s), some (.int w), some (.int (kindsF S nk s w j)), some (.int (nI j))] [] (encC S ++ T) 0 0 := by
    refine down ?_ (fun j hj ih => ?_)
    · exact run_sound okX7_kinds (fun i => Nat.beq i 13) 100 (brT (Int32.le_refl _) ⟨rfl, rfl⟩)
    · refine run_sound okX7_kinds (fun i => Nat.beq i 13) 100 (brF (ge_no (n := 6) rfl hj (by decide)) (kH (c_allSayableWere hI _ _) (by decide) (kH (c_bit _ _) (by decide) (br (fun h2 => ?_) (fun h2 => ?_)))))
      · rw [show kindsF S nk s w (j + 1) = kindsF S nk s w j ||| (1 <<< (nI j &&& 31)) from if_pos h2, ← nI_1 j] at ih
        exact ih
      · rw [show kindsF S nk s w (j + 1) = kindsF S nk s w j from if_neg h2, ← nI_1 j] at ih
        exact ih
  exact key 0 (Nat.zero_le _)
/-- the greatest common divisor, 64 steps at most -/
def gcdF : Nat → Int32 → Int32 → Int32
  | 0, a, _ => a
  | m + 1, a, b => if b = 0 then a else gcdF m b (a - a / b * b)
set_option maxRecDepth 100000 in
theorem c_commonDivisor {hp : AH} (a b : Int32) : Ans l 0 X sgX7_commonDivisor [.int a, .int b] hp (gcdF 64 a b) := by
  refine Ctr.of okX7_commonDivisor rfl (Nat.le_of_ble_eq_true rfl) (run_sound okX7_commonDivisor (fun i => Nat.beq i 6) 100 ?_)
  have key : ∀ j, j ≤ 64 → ∀ x y x5, gcdF 64 a b = gcdF (64 - j) x y → WP l (rmD 0 0 0) X sgX7_commonDivisor kX7_commonDivisor (fun h w => h = hp ∧ w = some (.int (gcdF 64 a b))) 6 [some (.int a), some (.int b), some (.int x), some (.int y), some (.int (nI j)), x5] [] hp 0 0 := by
    refine down (fun x y x5 h => ?_) (fun j hj ih x y x5 h => ?_)
    · exact run_sound okX7_commonDivisor (fun i => Nat.beq i 6) 100 (brT (Int32.le_refl _) ⟨rfl, some_int h.symm⟩)
    · rw [show 64 - j = (64 - (j + 1)) + 1 by omega] at h
      refine run_sound okX7_commonDivisor (fun i => Nat.beq i 6) 100 (brF (ge_no (n := 64) rfl hj (by decide)) (br (fun h1 => ⟨rfl, some_int (h.trans (if_pos (c := y = 0) h1)).symm⟩) (fun h1 => And.intro h1 ?_)))
      have ih := ih y (x - x / y * y) (some (.int (x - x / y * y))) (h.trans (if_neg (c := y = 0) h1))
      rw [← nI_1 j] at ih
      exact ih
  exact key 0 (Nat.zero_le _) a b none rfl
def lowF (above below part : Int32) : Int64 := if below = 0 ∨ gcdF 64 above below = 0 then -4611686018427387904 else if part = 0 then (above / gcdF 64 above below).toInt64 else (below / gcdF 64 above below).toInt64
theorem some_long {x y : Int64} (h : x = y) : (some (Value.long x)) = some (.long y) := by rw [h]
set_option maxRecDepth 100000 in
theorem c_inLowestTerms {hp : AH} (a b part : Int32) : AnsL l 1 X sgX7_inLowestTerms [.int a, .int b, .int part] hp (lowF a b part) := by
  refine Ctr.of okX7_inLowestTerms rfl (Nat.le_of_ble_eq_true rfl) (run_sound okX7_inLowestTerms noCut 100 ?_)
  refine kH (c_commonDivisor _ _) (by decide) (br (fun h1 => ⟨rfl, rfl, some_long (if_pos (Or.inl h1)).symm⟩) (fun h1 => br (fun h2 => ⟨rfl, rfl, some_long (if_pos (Or.inr h2)).symm⟩) (fun h2 => br (fun h3 => And.intro h2 ⟨rfl, rfl, some_long ?_⟩) (fun h3 => And.intro h2 ⟨rfl, rfl, some_long ?_⟩))))
  · exact ((if_neg (c := b = 0 ∨ gcdF 64 a b = 0) (fun z => z.elim h1 h2)).trans (if_pos (c := part = 0) h3)).symm
  · exact ((if_neg (c := b = 0 ∨ gcdF 64 a b = 0) (fun z => z.elim h1 h2)).trans (if_neg (c := part = 0) h3)).symm
end FITS3
end
section
-- 25.quest
section QUEST
variable {l : Launch} {X : List (List Int32)} {S : CS} {T : AH} {nt ns nk : Nat}
/-- the best question: speaker, text, worst, cost -/
abbrev BQ : Type := Int32 × Int32 × Int32 × Int32
def setB (S : CS) (B : BQ) : CS := cN (cN (cN (cN S 260 B.1) 261 B.2.1) 262 B.2.2.1) 263 B.2.2.2
def getB (S : CS) : BQ := (S.1 260, S.1 261, S.1 262, S.1 263)
theorem CInv.setB (h : CInv S nt ns nk) (B : BQ) : CInv (setB S B) nt ns nk := h
def considB (B : BQ) (s t w c : Int32) : BQ := if w < B.2.2.1 ∨ (w = B.2.2.1 ∧ c < B.2.2.2) then (s, t, w, c) else B
set_option maxRecDepth 100000 in
theorem c_consider (B : BQ) (s t w c : Int32) : Ctr l 0 X sgX2_consider [.ref 26, .int s, .int t, .int w, .int c] (encC (setB S B) ++ T) (fun h v => h = encC (setB S (considB B s t w c)) ++ T ∧ v = none) := by
  refine Ctr.of okX2_consider rfl (Nat.le_of_ble_eq_true rfl) (run_sound okX2_consider noCut 100 ?_)
  refine br (fun h1 => ?_) (fun h1 => br (fun h2 => br (fun h3 => ?_) (fun h3 => ?_)) (fun h2 => ?_))
  · refine brF (by decide) (And.intro trivial (And.intro trivial (And.intro trivial (And.intro trivial ⟨rfl, ?_, rfl⟩))))
    rw [show considB B s t w c = (s, t, w, c) from if_pos (Or.inl h1)]
    rfl
  · refine brT rfl ⟨rfl, ?_, rfl⟩
    rw [show considB B s t w c = B from if_neg (fun z => z.elim h1 (fun z => absurd z.2 (Int32.not_lt.mpr h3)))]
  · refine brF (by decide) (And.intro trivial (And.intro trivial (And.intro trivial (And.intro trivial ⟨rfl, ?_, rfl⟩))))
    rw [show considB B s t w c = (s, t, w, c) from if_pos (Or.inr ⟨h2, Int32.not_le.mp h3⟩)]
    rfl
  · refine brT rfl ⟨rfl, ?_, rfl⟩
    rw [show considB B s t w c = B from if_neg (fun z => z.elim h1 (fun z => h2 z.1))]
def maxF (a b : Int32) : Int32 := if a < b then b else a
def minF (a b : Int32) : Int32 := if b < a then b else a
def worstF (S : CS) (left s t n : Int32) : Int32 := maxF (bcF (left &&& nextF S s t 0 n)) (bcF (left &&& nextF S s t 1 n))
set_option maxRecDepth 100000 in
theorem c_worstOf (hL : CLen S) (left s t n : Int32) : Ans l 3 X sgX7_worstOf [.ref 0, .int left, .int s, .int t, .int n] (encC S ++ T) (worstF S left s t n) := by
  refine Ctr.of okX7_worstOf rfl (Nat.le_of_ble_eq_true rfl) (run_sound okX7_worstOf noCut 100 ?_)
  exact kH (c_sayableNext hL _ _ _ _) (by decide) (kH (c_bitCount _) (by decide) (kH (c_sayableNext hL _ _ _ _) (by decide) (kH (c_bitCount _) (by decide) (And.intro (by decide) ⟨rfl, rfl⟩))))
def fbI (S : CS) (left n s : Int32) (B : BQ) : Nat → BQ
  | 0 => B
  | t + 1 => considB (fbI S left n s B t) s (nI t) (worstF S left s (nI t) n) (costF S (nI t) s)
def fbO (S : CS) (left n : Int32) (nt : Nat) : Nat → BQ
  | 0 => (S.1 260, S.1 261, 33, S.1 263)
  | s + 1 => fbI S left n (nI s) (fbO S left n nt s) nt
set_option maxRecDepth 100000 in
theorem c_findBest (hI : CInv S nt ns nk) (left n : Int32) : Ctr l 4 X sgX7_findBest [.ref 0, .int left, .int n] (encC S ++ T) (fun h w => h = encC (setB S (fbO S left n nt ns)) ++ T ∧ w = some (.int (bI (0 < ns)))) := by
  have hI0 := hI
  obtain ⟨hL, ht, ⟨ht1, ht6⟩, hs, hs5, -, -⟩ := hI
  refine Ctr.of okX7_findBest rfl (Nat.le_of_ble_eq_true rfl) (run_sound okX7_findBest (fun i => Nat.beq i 6 || Nat.beq i 13) 100 ?_)
  have key : ∀ j, j ≤ ns → ∀ x4, WP l (rmD 4 0 0) X sgX7_findBest kX7_findBest (fun h w => h = encC (setB S (fbO S left n nt ns)) ++ T ∧ w = some (.int (bI (0 < ns)))) 6 [some (.ref 0), some (.int left), some (.int n), some (.int (nI j)), x4] [] (encC (setB S (fbO S left n nt j)) ++ T) 0 0 := by
    refine down (fun x4 => ?_) (fun j hj ih x4 => ?_)
    · refine run_sound okX7_findBest (fun i => Nat.beq i 6 || Nat.beq i 13) 100 (brT (ge_end hs) ?_)
      refine br (fun h1 => ⟨rfl, rfl, some_int ?_⟩) (fun h1 => ⟨rfl, rfl, some_int ?_⟩)
      · refine (bI_f (fun z => ?_)).symm
        have h1 : S.1 133 ≤ 0 := h1
        rw [hs] at h1
        exact absurd h1 (nI_nle z (by omega))
      · refine (bI_t ?_).symm
        have h1 : ¬ S.1 133 ≤ 0 := h1
        rw [hs] at h1
        rcases Nat.eq_zero_or_pos ns with z | z
        · subst z; exact absurd (Int32.le_refl _) h1
        · exact z
    · refine run_sound okX7_findBest (fun i => Nat.beq i 6 || Nat.beq i 13) 100 (brF (ge_no hs hj (by omega)) ?_)
      have inner : ∀ q, q ≤ nt → WP l (rmD 4 0 0) X sgX7_findBest kX7_findBest (fun h w => h = encC (setB S (fbO S left n nt ns)) ++ T ∧ w = some (.int (bI (0 < ns)))) 13 [some (.ref 0), some (.int left), some (.int n), some (.int (nI j)), some (.int (nI q))] [] (encC (setB S (fbI S left n (nI j) (fbO S left n nt j) q)) ++ T) 0 0 := by
        refine down ?_ (fun q hq ihq => ?_)
        · refine run_sound okX7_findBest (fun i => Nat.beq i 6 || Nat.beq i 13) 100 (brT (ge_end ht) ?_)
          have ih := ih (some (.int (nI nt)))
          rw [← nI_1 j] at ih
          exact ih
        · refine run_sound okX7_findBest (fun i => Nat.beq i 6 || Nat.beq i 13) 100 (brF (ge_no ht hq (by omega)) ?_)
          refine kH (c_worstOf (S := setB S (fbI S left n (nI j) (fbO S left n nt j) q)) hL _ _ _ _) (by decide) (kH (c_costOf (S := setB S (fbI S left n (nI j) (fbO S left n nt j) q)) hL _ _) (by decide) (kH (c_consider _ _ _ _ _) (by decide) ?_))
          rw [← nI_1 q] at ihq
          exact ihq
      exact inner 0 (Nat.zero_le _)
  exact And.intro trivial (key 0 (Nat.zero_le _) none)
end QUEST
end
section
-- 26.quest2
section QUEST2
variable {l : Launch} {X : List (List Int32)} {S : CS} {T : AH} {nt ns nk : Nat}
def askS (S : CS) (nt ns nk : Nat) : BQ := fbO S (fitF S nk) (nI nk) nt ns
def askA (S : CS) (nt ns nk : Nat) (what : Int32) : Int32 := if ¬ 0 < ns then -1 else if what = 1 then (askS S nt ns nk).2.2.1 else if what = 2 then (askS S nt ns nk).2.2.2 else 10 * (askS S nt ns nk).1 + (askS S nt ns nk).2.1
set_option maxRecDepth 100000 in
theorem c_ask (hI : CInv S nt ns nk) (what : Int32) : Ctr l 7 X sgX7_ask [.ref 0, .int what] (encC S ++ T) (fun h w => (∃ B, h = encC (setB S B) ++ T) ∧ w = some (.int (if ¬ (0 ≤ what ∧ what < 3) then -2 else askA S nt ns nk what))) := by
  have hk : S.1 134 = nI nk := hI.2.2.2.2.2.1
  refine Ctr.of okX7_ask rfl (Nat.le_of_ble_eq_true rfl) (run_sound okX7_ask noCut 100 ?_)
  have hc : Ctr l 4 X sgX7_findBest [.ref 0, .int (fitF S nk), .int (S.1 134)] (encC S ++ T) (fun h w => h = encC (setB S (askS S nt ns nk)) ++ T ∧ w = some (.int (bI (0 < ns)))) := by rw [hk]; exact c_findBest hI _ _
  refine kH (c_isBelow _ _) (by decide) (brB' (fun h => ⟨⟨getB S, rfl⟩, some_int (if_pos h).symm⟩) (fun h => kH (c_fitting hI) (by decide) ?_))
  have e0 : ∀ {y : Int32}, y = askA S nt ns nk what → y = if ¬ (0 ≤ what ∧ what < 3) then -2 else askA S nt ns nk what := fun q => q.trans (if_neg (not_not_intro h)).symm
  refine kH hc (by decide) (brB' (fun h1 => ⟨⟨_, rfl⟩, some_int (e0 (if_pos h1).symm)⟩) (fun h1 => br (fun h2 => ⟨⟨_, rfl⟩, some_int (e0 ?_)⟩) (fun h2 => br (fun h3 => ⟨⟨_, rfl⟩, some_int (e0 ?_)⟩) (fun h3 => ⟨⟨_, rfl⟩, some_int (e0 ?_)⟩))))
  · exact ((if_neg (c := ¬ 0 < ns) (not_not_intro h1)).trans (if_pos (c := what = 1) h2)).symm
  · exact ((if_neg (c := ¬ 0 < ns) (not_not_intro h1)).trans ((if_neg (c := what = 1) h2).trans (if_pos (c := what = 2) h3))).symm
  · exact ((if_neg (c := ¬ 0 < ns) (not_not_intro h1)).trans ((if_neg (c := what = 1) h2).trans (if_neg (c := what = 2) h3))).symm
/-- the worst behind a question: over both ways of its being said -/
def wbB (S : CS) (nt ns nk : Nat) (fit s t : Int32) : Nat → BQ × Int32
  | 0 => (getB S, 0)
  | j + 1 => let B := fbO (setB S (wbB S nt ns nk fit s t j).1) (fit &&& nextF S s t (nI j) (nI nk)) (nI nk + 1) nt ns
    (B, if 0 < ns then maxF (wbB S nt ns nk fit s t j).2 B.2.2.1 else (wbB S nt ns nk fit s t j).2)
set_option maxRecDepth 100000 in
theorem c_worstBehind (hI : CInv S nt ns nk) (fit s t : Int32) : Ctr l 5 X sgX7_worstBehind [.ref 0, .int fit, .int s, .int t] (encC S ++ T) (fun h w => h = encC (setB S (wbB S nt ns nk fit s t 2).1) ++ T ∧ w = some (.int (wbB S nt ns nk fit s t 2).2)) := by
  have hL := hI.1
  have hk : S.1 134 = nI nk := hI.2.2.2.2.2.1
  refine Ctr.of okX7_worstBehind rfl (Nat.le_of_ble_eq_true rfl) (run_sound okX7_worstBehind (fun i => Nat.beq i 8) 100 ?_)
  have key : ∀ j, j ≤ 2 → ∀ x7, WP l (rmD 5 0 0) X sgX7_worstBehind kX7_worstBehind (fun h w => h = encC (setB S (wbB S nt ns nk fit s t 2).1) ++ T ∧ w = some (.int (wbB S nt ns nk fit s t 2).2)) 8 [some (.ref 0), some (.int fit), some (.int s), some (.int t), some (.int (nI nk)), some (.int (wbB S nt ns nk fit s t j).2), some (.int (nI j)), x7] [] (encC (setB S (wbB S nt ns nk fit s t j).1) ++ T) 0 0 := by
    refine down (fun x7 => ?_) (fun j hj ih x7 => ?_)
    · exact run_sound okX7_worstBehind (fun i => Nat.beq i 8) 100 (brT (Int32.le_refl _) ⟨rfl, rfl⟩)
    · refine run_sound okX7_worstBehind (fun i => Nat.beq i 8) 100 (brF (ge_no (n := 2) rfl hj (by decide)) ?_)
      refine kH (c_sayableNext (S := setB S (wbB S nt ns nk fit s t j).1) hL _ _ _ _) (by decide) (kH (c_findBest (hI.setB _) _ _) (by decide) ?_)
      refine brB' (fun h1 => ?_) (fun h1 => And.intro (by decide) ?_)
      · have ih := ih (some (.int (bI (0 < ns))))
        have e : (wbB S nt ns nk fit s t (j + 1)).2 = (wbB S nt ns nk fit s t j).2 := if_neg h1
        rw [e, ← nI_1 j] at ih
        exact ih
      · have ih := ih (some (.int (bI (0 < ns))))
        have e : (wbB S nt ns nk fit s t (j + 1)).2 = maxF (wbB S nt ns nk fit s t j).2 (wbB S nt ns nk fit s t (j + 1)).1.2.2.1 := if_pos h1
        rw [e, ← nI_1 j] at ih
        exact ih
  have k0 := key 0 (Nat.zero_le _) none
  rw [← hk] at k0
  exact k0
end QUEST2
end
section
-- 27.quest3
section QUEST3
variable {l : Launch} {X : List (List Int32)} {S : CS} {T : AH} {nt ns nk : Nat}
/-- the number of a world among some -/
def wnF (some_ i : Int32) : Nat → Nat → Int32 → Int32
  | 0, _, _ => -1
  | m + 1, w, ahead => if bitF some_ (nI w) = 1 then (if ahead = i then nI w else wnF some_ i m (w + 1) (ahead + 1)) else wnF some_ i m (w + 1) ahead
set_option maxRecDepth 100000 in
theorem c_worldNumber {hp : AH} (a i : Int32) : Ans l 1 X sgX7_worldNumber [.int a, .int i] hp (wnF a i 32 0 0) := by
  refine Ctr.of okX7_worldNumber rfl (Nat.le_of_ble_eq_true rfl) (run_sound okX7_worldNumber (fun i => Nat.beq i 4) 100 ?_)
  have key : ∀ j, j ≤ 32 → ∀ ah, wnF a i 32 0 0 = wnF a i (32 - j) j ah → WP l (rmD 1 0 0) X sgX7_worldNumber kX7_worldNumber (fun h w => h = hp ∧ w = some (.int (wnF a i 32 0 0))) 4 [some (.int a), some (.int i), some (.int ah), some (.int (nI j))] [] hp 0 0 := by
    refine down (fun ah h => ?_) (fun j hj ih ah h => ?_)
    · exact run_sound okX7_worldNumber (fun i => Nat.beq i 4) 100 (brT (Int32.le_refl _) ⟨rfl, some_int h.symm⟩)
    · rw [show 32 - j = (32 - (j + 1)) + 1 by omega, wnF] at h
      refine run_sound okX7_worldNumber (fun i => Nat.beq i 4) 100 (brF (ge_no (n := 32) rfl hj (by decide)) (kH (c_bit _ _) (by decide) (br (fun h1 => br (fun h2 => ⟨rfl, some_int ?_⟩) (fun h2 => ?_)) (fun h1 => ?_))))
      · exact (h.trans ((if_pos h1).trans (if_pos h2))).symm
      · have ih := ih (ah + 1) (h.trans ((if_pos h1).trans (if_neg h2)))
        rw [← nI_1 j] at ih
        exact ih
      · have ih := ih ah (h.trans (if_neg h1))
        rw [← nI_1 j] at ih
        exact ih
  exact key 0 (Nat.zero_le _) 0 rfl
def lotF (x : Int64) : Int64 := x * 48271 - x * 48271 / 2147483647 * 2147483647
set_option maxRecDepth 100000 in
theorem c_lotBehind {hp : AH} (x : Int64) : AnsL l 0 X sgX7_lotBehind [.long x] hp (lotF x) := by
  refine Ctr.of okX7_lotBehind rfl (Nat.le_of_ble_eq_true rfl) (run_sound okX7_lotBehind noCut 100 ?_)
  exact And.intro (by decide) ⟨rfl, rfl, rfl⟩
def ansF (S : CS) (B : BQ) (truth n even : Int32) : Int32 :=
  if bitF (nextF S B.1 B.2.1 0 n) truth = 1 ∧ (¬ bitF (nextF S B.1 B.2.1 1 n) truth = 1 ∨ ¬ even = 0) then nextF S B.1 B.2.1 0 n
  else if bitF (nextF S B.1 B.2.1 1 n) truth = 1 then nextF S B.1 B.2.1 1 n else -1
set_option maxRecDepth 100000 in
theorem c_answered (hL : CLen S) (truth n even : Int32) : Ans l 3 X sgX7_answered [.ref 0, .int truth, .int n, .int even] (encC S ++ T) (ansF S (getB S) truth n even) := by
  refine Ctr.of okX7_answered rfl (Nat.le_of_ble_eq_true rfl) (run_sound okX7_answered noCut 200 ?_)
  refine kH (c_sayableNext hL _ _ _ _) (by decide) (kH (c_sayableNext hL _ _ _ _) (by decide) (kH (c_bit _ _) (by decide) ?_))
  refine br (fun h1 => kH (c_bit _ _) (by decide) (br (fun h2 => ?_) (fun h2 => ?_))) (fun h1 => kH (c_bit _ _) (by decide) (br (fun h2 => ?_) (fun h2 => ?_)))
  · refine brF (by decide) (brF (by decide) (br (fun h3 => brF (by decide) ⟨rfl, some_int ?_⟩) (fun h3 => ⟨rfl, some_int ?_⟩)))
    · exact ((if_neg (fun z => z.2.elim (fun q => q h2) (fun q => q h3))).trans (if_pos h2)).symm
    · exact (if_pos ⟨h1, Or.inr h3⟩).symm
  · refine brF (by decide) (brT rfl ⟨rfl, some_int ?_⟩)
    exact (if_pos ⟨h1, Or.inl h2⟩).symm
  · refine brT rfl (brF (by decide) ⟨rfl, some_int ?_⟩)
    exact ((if_neg (fun z => h1 z.1)).trans (if_pos h2)).symm
  · refine brT rfl (brT rfl ⟨rfl, some_int ?_⟩)
    exact ((if_neg (fun z => h1 z.1)).trans (if_neg h2)).symm
/-- a stranger's questions: what is left, the lot; how many were asked -/
def saL (S : CS) (nt ns nk : Nat) (truth : Int32) : Nat → Nat → BQ → Int32 → Int64 → BQ × Nat
  | 0, i, B, _, _ => (B, i)
  | m + 1, i, B, left, lot =>
    if bcF left ≤ 1 then (B, i) else
    let B' := fbO (setB S B) left (S.1 134 + nI i) nt ns
    if ns = 0 then (B', i) else
    saL S nt ns nk truth m (i + 1) B' (left &&& ansF S B' truth (S.1 134 + nI i) (bI (lotF lot - lotF lot / 2 * 2 = 0))) (lotF lot)
def saA (S : CS) (nt ns nk : Nat) (seed fit : Int32) : BQ × Nat := saL S nt ns nk (wnF fit (lotF (seed.toInt64 + 1) - lotF (seed.toInt64 + 1) / (bcF fit).toInt64 * (bcF fit).toInt64).toInt32 32 0 0) 6 0 (getB S) fit (lotF (seed.toInt64 + 1))
theorem lg_cmp0 {x y : Int64} : lg_cmp x y = 0 ↔ x = y := by
  unfold lg_cmp
  simp only [gt_iff_lt, Int64.lt_iff_toInt_lt, ← Int64.toInt_inj]
  constructor
  · intro h
    split at h
    · exact absurd h (by decide)
    · split at h
      · assumption
      · exact absurd h (by decide)
  · intro h
    rw [if_neg (by omega), if_pos h]
theorem bcF_64 {a : Int32} (h : ¬ bcF a = 0) : ¬ (bcF a).toInt64 = 0 := by
  intro z
  apply h
  have := congrArg Int64.toInt z
  rw [Int32.toInt_toInt64] at this
  exact Int32.toInt_inj.mp (this.trans rfl)
set_option maxRecDepth 100000 in
theorem c_strangerAsks (hI : CInv S nt ns nk) (seed fit : Int32) (hf : ¬ bcF fit = 0) : Ctr l 5 X sgX7_strangerAsks [.ref 0, .int seed, .int fit] (encC S ++ T) (fun h w => h = encC (setB S (saA S nt ns nk seed fit).1) ++ T ∧ w = some (.int (nI (saA S nt ns nk seed fit).2))) := by
  have hL := hI.1
  have hk : S.1 134 = nI nk := hI.2.2.2.2.2.1
  refine Ctr.of okX7_strangerAsks rfl (Nat.le_of_ble_eq_true rfl) (run_sound okX7_strangerAsks (fun i => Nat.beq i 27) 200 ?_)
  refine kH (c_bitCount _) (by decide) (brF hf (kH (c_lotBehind _) (by decide) (And.intro (bcF_64 hf) (kH (c_worldNumber _ _) (by decide) ?_))))
  have key : ∀ j, j ≤ 6 → ∀ (B : BQ) (left : Int32) (lot : Int64) x10, saA S nt ns nk seed fit = saL S nt ns nk (wnF fit (lotF (seed.toInt64 + 1) - lotF (seed.toInt64 + 1) / (bcF fit).toInt64 * (bcF fit).toInt64).toInt32 32 0 0) (6 - j) j B left lot →
      WP l (rmD 5 0 0) X sgX7_strangerAsks kX7_strangerAsks (fun h w => h = encC (setB S (saA S nt ns nk seed fit).1) ++ T ∧ w = some (.int (nI (saA S nt ns nk seed fit).2))) 27 [some (.ref 0), some (.int seed), some (.int fit), some (.int (bcF fit)), some (.long lot), none, some (.int (wnF fit (lotF (seed.toInt64 + 1) - lotF (seed.toInt64 + 1) / (bcF fit).toInt64 * (bcF fit).toInt64).toInt32 32 0 0)), some (.int left), some (.int (nI j)), some (.int (nI j)), x10] [] (encC (setB S B) ++ T) 0 0 := by
    refine down (fun B left lot x10 h => ?_) (fun j hj ih B left lot x10 h => ?_)
    · refine run_sound okX7_strangerAsks (fun i => Nat.beq i 27) 200 (brT (Int32.le_refl _) ⟨?_, ?_⟩)
      · rw [h]; rfl
      · rw [h]; rfl
    · rw [show 6 - j = (6 - (j + 1)) + 1 by omega, saL] at h
      refine run_sound okX7_strangerAsks (fun i => Nat.beq i 27) 200 (brF (ge_no (n := 6) rfl hj (by decide)) (kH (c_bitCount _) (by decide) (br (fun h1 => ?_) (fun h1 => ?_))))
      · rw [if_pos (show bcF left ≤ 1 from h1)] at h
        refine ⟨?_, ?_⟩
        · rw [h]
        · rw [h]
      · rw [if_neg (show ¬ bcF left ≤ 1 from h1)] at h
        refine kH (c_findBest (hI.setB B) _ _) (by decide) (brB' (fun h2 => ?_) (fun h2 => ?_))
        · rw [if_pos (show ns = 0 by omega)] at h
          refine ⟨?_, ?_⟩
          · rw [h]; rfl
          · rw [h]
        · rw [if_neg (show ¬ ns = 0 by omega)] at h
          refine kH (c_lotBehind _) (by decide) (And.intro (by decide) (br (fun h3 => ?_) (fun h3 => ?_)))
          · refine kH (c_answered (S := setB S (fbO (setB S B) left (S.1 134 + nI j) nt ns)) hL _ _ _) (by decide) ?_
            rw [bI_t (show lotF lot - lotF lot / 2 * 2 = 0 from lg_cmp0.mp h3)] at h
            have ih := ih _ _ _ (some (.int (S.1 134 + nI j))) h
            rw [← nI_1 j] at ih
            exact ih
          · refine kH (c_answered (S := setB S (fbO (setB S B) left (S.1 134 + nI j) nt ns)) hL _ _ _) (by decide) ?_
            rw [bI_f (show ¬ lotF lot - lotF lot / 2 * 2 = 0 from fun z => h3 (lg_cmp0.mpr z))] at h
            have ih := ih _ _ _ (some (.int (S.1 134 + nI j))) h
            rw [← nI_1 j] at ih
            exact ih
  exact key 0 (Nat.zero_le _) (getB S) fit (lotF (seed.toInt64 + 1)) none rfl
end QUEST3
end
section
-- 30.ctorC
/-! CONSTRUCTORS: walked by program (wip/gen/ctor.py) -/
def z32 (n : Nat) : List Int32 := List.replicate n 0
def z64 (n : Nat) : List Int64 := List.replicate n 0
abbrev kN (h1 : AH) : AH → Option Value → Prop := fun h w => h = h1 ∧ w = none
section CTOR
variable {l : Launch} {X : List (List Int32)}
set_option maxRecDepth 100000 in
set_option maxHeartbeats 4000000 in
theorem i_c0 : Ctr l 1 X sgX6_init [.ref 1] [AO 7 [.null, .null, .null, .null, .null, .null, .null, .null, .int 0], AO 6 [.null, .int 0, .int 0, .int 0, .int 0, .int 0]] (kN [AO 7 [.null, .null, .null, .null, .null, .null, .null, .null, .int 0], AO 6 [.ref 2, .int 0, .int 0, .int 0, .int 0, .int 0], AI (z32 160)]) := by
  refine Ctr.of okX6_init rfl (Nat.le_of_ble_eq_true rfl) (run_sound okX6_init noCut 27 ?_)
  refine And.intro (by decide) ?_
  refine And.intro rfl (And.intro (by decide) (And.intro (by decide) (And.intro (by decide) ?_)))
  refine And.intro trivial ?_
  exact ⟨rfl, rfl, rfl⟩
set_option maxRecDepth 100000 in
set_option maxHeartbeats 4000000 in
theorem i_c1 : Ctr l 1 X sgX0_init [.ref 3] [AO 7 [.ref 1, .null, .null, .null, .null, .null, .null, .null, .int 0], AO 6 [.ref 2, .int 0, .int 0, .int 0, .int 0, .int 0], AI (z32 160), AO 0 [.null, .null, .null, .null, .int 0, .int 0]] (kN [AO 7 [.ref 1, .null, .null, .null, .null, .null, .null, .null, .int 0], AO 6 [.ref 2, .int 0, .int 0, .int 0, .int 0, .int 0], AI (z32 160), AO 0 [.ref 4, .ref 5, .ref 6, .ref 7, .int 0, .int 0], AI (z32 160), AI (z32 160), AI (z32 4), AI (z32 160)]) := by
  refine Ctr.of okX0_init rfl (Nat.le_of_ble_eq_true rfl) (run_sound okX0_init noCut 39 ?_)
  refine And.intro (by decide) ?_
  refine And.intro rfl (And.intro (by decide) (And.intro (by decide) (And.intro (by decide) ?_)))
  refine And.intro trivial ?_
  refine And.intro rfl (And.intro (by decide) (And.intro (by decide) (And.intro (by decide) ?_)))
  refine And.intro trivial ?_
  refine And.intro rfl (And.intro (by decide) (And.intro (by decide) (And.intro (by decide) ?_)))
  refine And.intro trivial ?_
  refine And.intro rfl (And.intro (by decide) (And.intro (by decide) (And.intro (by decide) ?_)))
  refine And.intro trivial ?_
  exact ⟨rfl, rfl, rfl⟩
set_option maxRecDepth 100000 in
set_option maxHeartbeats 4000000 in
theorem i_c2 : Ctr l 1 X sgX1_init [.ref 8, .ref 1, .ref 3] [AO 7 [.ref 1, .ref 3, .null, .null, .null, .null, .null, .null, .int 0], AO 6 [.ref 2, .int 0, .int 0, .int 0, .int 0, .int 0], AI (z32 160), AO 0 [.ref 4, .ref 5, .ref 6, .ref 7, .int 0, .int 0], AI (z32 160), AI (z32 160), AI (z32 4), AI (z32 160), AO 1 [.null, .null]] (kN [AO 7 [.ref 1, .ref 3, .null, .null, .null, .null, .null, .null, .int 0], AO 6 [.ref 2, .int 0, .int 0, .int 0, .int 0, .int 0], AI (z32 160), AO 0 [.ref 4, .ref 5, .ref 6, .ref 7, .int 0, .int 0], AI (z32 160), AI (z32 160), AI (z32 4), AI (z32 160), AO 1 [.ref 1, .ref 3]]) := by
  refine Ctr.of okX1_init rfl (Nat.le_of_ble_eq_true rfl) (run_sound okX1_init noCut 30 ?_)
  refine And.intro (by decide) ?_
  refine And.intro trivial ?_
  refine And.intro trivial ?_
  exact ⟨rfl, rfl, rfl⟩
set_option maxRecDepth 100000 in
set_option maxHeartbeats 4000000 in
theorem i_c3 : Ctr l 1 X sgX5_init [.ref 9] [AO 7 [.ref 1, .ref 3, .ref 8, .null, .null, .null, .null, .null, .int 0], AO 6 [.ref 2, .int 0, .int 0, .int 0, .int 0, .int 0], AI (z32 160), AO 0 [.ref 4, .ref 5, .ref 6, .ref 7, .int 0, .int 0], AI (z32 160), AI (z32 160), AI (z32 4), AI (z32 160), AO 1 [.ref 1, .ref 3], AO 5 [.null, .null, .null, .int 0]] (kN [AO 7 [.ref 1, .ref 3, .ref 8, .null, .null, .null, .null, .null, .int 0], AO 6 [.ref 2, .int 0, .int 0, .int 0, .int 0, .int 0], AI (z32 160), AO 0 [.ref 4, .ref 5, .ref 6, .ref 7, .int 0, .int 0], AI (z32 160), AI (z32 160), AI (z32 4), AI (z32 160), AO 1 [.ref 1, .ref 3], AO 5 [.ref 10, .ref 11, .ref 12, .int 1], AI ([-1, -1, -1, -1, -1] ++ z32 25), AI (z32 30), AI ([1, 1, 1, 1, 1] ++ z32 25)]) := by
  refine Ctr.of okX5_init rfl (Nat.le_of_ble_eq_true rfl) (run_sound okX5_init noCut 118 ?_)
  refine And.intro (by decide) ?_
  refine And.intro rfl (And.intro (by decide) (And.intro (by decide) (And.intro (by decide) ?_)))
  refine And.intro trivial ?_
  refine And.intro rfl (And.intro (by decide) (And.intro (by decide) (And.intro (by decide) ?_)))
  refine And.intro trivial ?_
  refine And.intro rfl (And.intro (by decide) (And.intro (by decide) (And.intro (by decide) ?_)))
  refine And.intro trivial ?_
  refine brF (by decide) ?_
  refine kH (c_put rfl rfl (by decide)) (by decide) ?_
  refine kH (c_put rfl rfl (by decide)) (by decide) ?_
  refine brF (by decide) ?_
  refine kH (c_put rfl rfl (by decide)) (by decide) ?_
  refine kH (c_put rfl rfl (by decide)) (by decide) ?_
  refine brF (by decide) ?_
  refine kH (c_put rfl rfl (by decide)) (by decide) ?_
  refine kH (c_put rfl rfl (by decide)) (by decide) ?_
  refine brF (by decide) ?_
  refine kH (c_put rfl rfl (by decide)) (by decide) ?_
  refine kH (c_put rfl rfl (by decide)) (by decide) ?_
  refine brF (by decide) ?_
  refine kH (c_put rfl rfl (by decide)) (by decide) ?_
  refine kH (c_put rfl rfl (by decide)) (by decide) ?_
  refine brT (by decide) ?_
  refine And.intro trivial ?_
  exact ⟨rfl, rfl, rfl⟩
set_option maxRecDepth 100000 in
set_option maxHeartbeats 4000000 in
theorem i_c4 : Ctr l 1 X sgX4_init [.ref 13] [AO 7 [.ref 1, .ref 3, .ref 8, .ref 9, .null, .null, .null, .null, .int 0], AO 6 [.ref 2, .int 0, .int 0, .int 0, .int 0, .int 0], AI (z32 160), AO 0 [.ref 4, .ref 5, .ref 6, .ref 7, .int 0, .int 0], AI (z32 160), AI (z32 160), AI (z32 4), AI (z32 160), AO 1 [.ref 1, .ref 3], AO 5 [.ref 10, .ref 11, .ref 12, .int 1], AI ([-1, -1, -1, -1, -1] ++ z32 25), AI (z32 30), AI ([1, 1, 1, 1, 1] ++ z32 25), AO 4 [.null, .null, .null, .int 0, .int 0, .int 0]] (kN [AO 7 [.ref 1, .ref 3, .ref 8, .ref 9, .null, .null, .null, .null, .int 0], AO 6 [.ref 2, .int 0, .int 0, .int 0, .int 0, .int 0], AI (z32 160), AO 0 [.ref 4, .ref 5, .ref 6, .ref 7, .int 0, .int 0], AI (z32 160), AI (z32 160), AI (z32 4), AI (z32 160), AO 1 [.ref 1, .ref 3], AO 5 [.ref 10, .ref 11, .ref 12, .int 1], AI ([-1, -1, -1, -1, -1] ++ z32 25), AI (z32 30), AI ([1, 1, 1, 1, 1] ++ z32 25), AO 4 [.ref 14, .ref 15, .ref 16, .int 0, .int 0, .int 0], AI (z32 5), AI (z32 5), AI (z32 36)]) := by
  refine Ctr.of okX4_init rfl (Nat.le_of_ble_eq_true rfl) (run_sound okX4_init noCut 35 ?_)
  refine And.intro (by decide) ?_
  refine And.intro rfl (And.intro (by decide) (And.intro (by decide) (And.intro (by decide) ?_)))
  refine And.intro trivial ?_
  refine And.intro rfl (And.intro (by decide) (And.intro (by decide) (And.intro (by decide) ?_)))
  refine And.intro trivial ?_
  refine And.intro rfl (And.intro (by decide) (And.intro (by decide) (And.intro (by decide) ?_)))
  refine And.intro trivial ?_
  exact ⟨rfl, rfl, rfl⟩
set_option maxRecDepth 100000 in
set_option maxHeartbeats 4000000 in
theorem i_c5 : Ctr l 1 X sgX4_init [.ref 17] [AO 7 [.ref 1, .ref 3, .ref 8, .ref 9, .ref 13, .null, .null, .null, .int 0], AO 6 [.ref 2, .int 0, .int 0, .int 0, .int 0, .int 0], AI (z32 160), AO 0 [.ref 4, .ref 5, .ref 6, .ref 7, .int 0, .int 0], AI (z32 160), AI (z32 160), AI (z32 4), AI (z32 160), AO 1 [.ref 1, .ref 3], AO 5 [.ref 10, .ref 11, .ref 12, .int 1], AI ([-1, -1, -1, -1, -1] ++ z32 25), AI (z32 30), AI ([1, 1, 1, 1, 1] ++ z32 25), AO 4 [.ref 14, .ref 15, .ref 16, .int 0, .int 0, .int 0], AI (z32 5), AI (z32 5), AI (z32 36), AO 4 [.null, .null, .null, .int 0, .int 0, .int 0]] (kN [AO 7 [.ref 1, .ref 3, .ref 8, .ref 9, .ref 13, .null, .null, .null, .int 0], AO 6 [.ref 2, .int 0, .int 0, .int 0, .int 0, .int 0], AI (z32 160), AO 0 [.ref 4, .ref 5, .ref 6, .ref 7, .int 0, .int 0], AI (z32 160), AI (z32 160), AI (z32 4), AI (z32 160), AO 1 [.ref 1, .ref 3], AO 5 [.ref 10, .ref 11, .ref 12, .int 1], AI ([-1, -1, -1, -1, -1] ++ z32 25), AI (z32 30), AI ([1, 1, 1, 1, 1] ++ z32 25), AO 4 [.ref 14, .ref 15, .ref 16, .int 0, .int 0, .int 0], AI (z32 5), AI (z32 5), AI (z32 36), AO 4 [.ref 18, .ref 19, .ref 20, .int 0, .int 0, .int 0], AI (z32 5), AI (z32 5), AI (z32 36)]) := by
  refine Ctr.of okX4_init rfl (Nat.le_of_ble_eq_true rfl) (run_sound okX4_init noCut 35 ?_)
  refine And.intro (by decide) ?_
  refine And.intro rfl (And.intro (by decide) (And.intro (by decide) (And.intro (by decide) ?_)))
  refine And.intro trivial ?_
  refine And.intro rfl (And.intro (by decide) (And.intro (by decide) (And.intro (by decide) ?_)))
  refine And.intro trivial ?_
  refine And.intro rfl (And.intro (by decide) (And.intro (by decide) (And.intro (by decide) ?_)))
  refine And.intro trivial ?_
  exact ⟨rfl, rfl, rfl⟩
set_option maxRecDepth 100000 in
set_option maxHeartbeats 4000000 in
theorem i_c6 : Ctr l 1 X sgX3_init [.ref 21] [AO 7 [.ref 1, .ref 3, .ref 8, .ref 9, .ref 13, .ref 17, .null, .null, .int 0], AO 6 [.ref 2, .int 0, .int 0, .int 0, .int 0, .int 0], AI (z32 160), AO 0 [.ref 4, .ref 5, .ref 6, .ref 7, .int 0, .int 0], AI (z32 160), AI (z32 160), AI (z32 4), AI (z32 160), AO 1 [.ref 1, .ref 3], AO 5 [.ref 10, .ref 11, .ref 12, .int 1], AI ([-1, -1, -1, -1, -1] ++ z32 25), AI (z32 30), AI ([1, 1, 1, 1, 1] ++ z32 25), AO 4 [.ref 14, .ref 15, .ref 16, .int 0, .int 0, .int 0], AI (z32 5), AI (z32 5), AI (z32 36), AO 4 [.ref 18, .ref 19, .ref 20, .int 0, .int 0, .int 0], AI (z32 5), AI (z32 5), AI (z32 36), AO 3 [.null, .null, .null, .null]] (kN [AO 7 [.ref 1, .ref 3, .ref 8, .ref 9, .ref 13, .ref 17, .null, .null, .int 0], AO 6 [.ref 2, .int 0, .int 0, .int 0, .int 0, .int 0], AI (z32 160), AO 0 [.ref 4, .ref 5, .ref 6, .ref 7, .int 0, .int 0], AI (z32 160), AI (z32 160), AI (z32 4), AI (z32 160), AO 1 [.ref 1, .ref 3], AO 5 [.ref 10, .ref 11, .ref 12, .int 1], AI ([-1, -1, -1, -1, -1] ++ z32 25), AI (z32 30), AI ([1, 1, 1, 1, 1] ++ z32 25), AO 4 [.ref 14, .ref 15, .ref 16, .int 0, .int 0, .int 0], AI (z32 5), AI (z32 5), AI (z32 36), AO 4 [.ref 18, .ref 19, .ref 20, .int 0, .int 0, .int 0], AI (z32 5), AI (z32 5), AI (z32 36), AO 3 [.ref 22, .ref 23, .ref 24, .ref 25], AI ([-1, -1, -1, -1]), AI (z32 4), AI (z32 160), AI (z32 40)]) := by
  refine Ctr.of okX3_init rfl (Nat.le_of_ble_eq_true rfl) (run_sound okX3_init noCut 84 ?_)
  refine And.intro (by decide) ?_
  refine And.intro rfl (And.intro (by decide) (And.intro (by decide) (And.intro (by decide) ?_)))
  refine And.intro trivial ?_
  refine And.intro rfl (And.intro (by decide) (And.intro (by decide) (And.intro (by decide) ?_)))
  refine And.intro trivial ?_
  refine And.intro rfl (And.intro (by decide) (And.intro (by decide) (And.intro (by decide) ?_)))
  refine And.intro trivial ?_
  refine And.intro rfl (And.intro (by decide) (And.intro (by decide) (And.intro (by decide) ?_)))
  refine And.intro trivial ?_
  refine brF (by decide) ?_
  refine kH (c_put rfl rfl (by decide)) (by decide) ?_
  refine brF (by decide) ?_
  refine kH (c_put rfl rfl (by decide)) (by decide) ?_
  refine brF (by decide) ?_
  refine kH (c_put rfl rfl (by decide)) (by decide) ?_
  refine brF (by decide) ?_
  refine kH (c_put rfl rfl (by decide)) (by decide) ?_
  refine brT (by decide) ?_
  exact ⟨rfl, rfl, rfl⟩
set_option maxRecDepth 100000 in
set_option maxHeartbeats 4000000 in
theorem i_c7 : Ctr l 1 X sgX2_init [.ref 26] [AO 7 [.ref 1, .ref 3, .ref 8, .ref 9, .ref 13, .ref 17, .ref 21, .null, .int 0], AO 6 [.ref 2, .int 0, .int 0, .int 0, .int 0, .int 0], AI (z32 160), AO 0 [.ref 4, .ref 5, .ref 6, .ref 7, .int 0, .int 0], AI (z32 160), AI (z32 160), AI (z32 4), AI (z32 160), AO 1 [.ref 1, .ref 3], AO 5 [.ref 10, .ref 11, .ref 12, .int 1], AI ([-1, -1, -1, -1, -1] ++ z32 25), AI (z32 30), AI ([1, 1, 1, 1, 1] ++ z32 25), AO 4 [.ref 14, .ref 15, .ref 16, .int 0, .int 0, .int 0], AI (z32 5), AI (z32 5), AI (z32 36), AO 4 [.ref 18, .ref 19, .ref 20, .int 0, .int 0, .int 0], AI (z32 5), AI (z32 5), AI (z32 36), AO 3 [.ref 22, .ref 23, .ref 24, .ref 25], AI ([-1, -1, -1, -1]), AI (z32 4), AI (z32 160), AI (z32 40), AO 2 [.int 0, .int 0, .int 0, .int 0]] (kN [AO 7 [.ref 1, .ref 3, .ref 8, .ref 9, .ref 13, .ref 17, .ref 21, .null, .int 0], AO 6 [.ref 2, .int 0, .int 0, .int 0, .int 0, .int 0], AI (z32 160), AO 0 [.ref 4, .ref 5, .ref 6, .ref 7, .int 0, .int 0], AI (z32 160), AI (z32 160), AI (z32 4), AI (z32 160), AO 1 [.ref 1, .ref 3], AO 5 [.ref 10, .ref 11, .ref 12, .int 1], AI ([-1, -1, -1, -1, -1] ++ z32 25), AI (z32 30), AI ([1, 1, 1, 1, 1] ++ z32 25), AO 4 [.ref 14, .ref 15, .ref 16, .int 0, .int 0, .int 0], AI (z32 5), AI (z32 5), AI (z32 36), AO 4 [.ref 18, .ref 19, .ref 20, .int 0, .int 0, .int 0], AI (z32 5), AI (z32 5), AI (z32 36), AO 3 [.ref 22, .ref 23, .ref 24, .ref 25], AI ([-1, -1, -1, -1]), AI (z32 4), AI (z32 160), AI (z32 40), AO 2 [.int 0, .int 0, .int 0, .int 0]]) := by
  refine Ctr.of okX2_init rfl (Nat.le_of_ble_eq_true rfl) (run_sound okX2_init noCut 23 ?_)
  refine And.intro (by decide) ?_
  exact ⟨rfl, rfl, rfl⟩
set_option maxRecDepth 100000 in
set_option maxHeartbeats 4000000 in
theorem i_class : Ctr l 2 X sgX7_init [.ref 0] [AO 7 [.null, .null, .null, .null, .null, .null, .null, .null, .int 0]] (kN [AO 7 [.ref 1, .ref 3, .ref 8, .ref 9, .ref 13, .ref 17, .ref 21, .ref 26, .int 0], AO 6 [.ref 2, .int 0, .int 0, .int 0, .int 0, .int 0], AI (z32 160), AO 0 [.ref 4, .ref 5, .ref 6, .ref 7, .int 0, .int 0], AI (z32 160), AI (z32 160), AI (z32 4), AI (z32 160), AO 1 [.ref 1, .ref 3], AO 5 [.ref 10, .ref 11, .ref 12, .int 1], AI ([-1, -1, -1, -1, -1] ++ z32 25), AI (z32 30), AI ([1, 1, 1, 1, 1] ++ z32 25), AO 4 [.ref 14, .ref 15, .ref 16, .int 0, .int 0, .int 0], AI (z32 5), AI (z32 5), AI (z32 36), AO 4 [.ref 18, .ref 19, .ref 20, .int 0, .int 0, .int 0], AI (z32 5), AI (z32 5), AI (z32 36), AO 3 [.ref 22, .ref 23, .ref 24, .ref 25], AI ([-1, -1, -1, -1]), AI (z32 4), AI (z32 160), AI (z32 40), AO 2 [.int 0, .int 0, .int 0, .int 0]]) := by
  refine Ctr.of okX7_init rfl (Nat.le_of_ble_eq_true rfl) (run_sound okX7_init noCut 70 ?_)
  refine And.intro (by decide) ?_
  refine And.intro rfl (And.intro (by decide) (And.intro (by decide) ?_))
  refine And.intro rfl ?_
  refine kH (i_c0) (by decide) ?_
  refine And.intro trivial ?_
  refine And.intro rfl (And.intro (by decide) (And.intro (by decide) ?_))
  refine And.intro rfl ?_
  refine kH (i_c1) (by decide) ?_
  refine And.intro trivial ?_
  refine And.intro rfl (And.intro (by decide) (And.intro (by decide) ?_))
  refine And.intro rfl ?_
  refine kH (i_c2) (by decide) ?_
  refine And.intro trivial ?_
  refine And.intro rfl (And.intro (by decide) (And.intro (by decide) ?_))
  refine And.intro rfl ?_
  refine kH (i_c3) (by decide) ?_
  refine And.intro trivial ?_
  refine And.intro rfl (And.intro (by decide) (And.intro (by decide) ?_))
  refine And.intro rfl ?_
  refine kH (i_c4) (by decide) ?_
  refine And.intro trivial ?_
  refine And.intro rfl (And.intro (by decide) (And.intro (by decide) ?_))
  refine And.intro rfl ?_
  refine kH (i_c5) (by decide) ?_
  refine And.intro trivial ?_
  refine And.intro rfl (And.intro (by decide) (And.intro (by decide) ?_))
  refine And.intro rfl ?_
  refine kH (i_c6) (by decide) ?_
  refine And.intro trivial ?_
  refine And.intro rfl (And.intro (by decide) (And.intro (by decide) ?_))
  refine And.intro rfl ?_
  refine kH (i_c7) (by decide) ?_
  refine And.intro trivial ?_
  refine And.intro (Or.inl rfl) ?_
  exact ⟨rfl, rfl, rfl⟩
end CTOR
/-- a new object -/
def CS0 : CS := (fun k => if k = 93 then 1 else 0, fun k => match k with
  | 2 => z32 160 | 4 => z32 160 | 5 => z32 160 | 6 => z32 4 | 7 => z32 160
  | 10 => [-1, -1, -1, -1, -1] ++ z32 25 | 11 => z32 30 | 12 => [1, 1, 1, 1, 1] ++ z32 25
  | 14 => z32 5 | 15 => z32 5 | 16 => z32 36 | 18 => z32 5 | 19 => z32 5 | 20 => z32 36
  | 22 => [-1, -1, -1, -1] | 23 => z32 4 | 24 => z32 160 | 25 => z32 40 | _ => [])
theorem i_class0 {l : Launch} {X : List (List Int32)} : Ctr l 2 X sgX7_init [.ref 0] [AO 7 (dfl 7 9)] (kN (encC CS0)) := i_class
end
