abbrev Ans (l : Launch) (d : Nat) (X : List (List Int32)) (g : Sig) (as : List Value) (hp : AH) (v : Int32) : Prop := Ctr l d X g as hp (fun h w => h = hp ∧ w = some (.int v))
abbrev AnsL (l : Launch) (d : Nat) (X : List (List Int32)) (g : Sig) (as : List Value) (hp : AH) (v : Int64) : Prop := Ctr l d X g as hp (fun h w => h = hp ∧ w = some (.long v))
theorem some_int {x y : Int32} (h : x = y) : (some (Value.int x)) = some (.int y) := by rw [h]
theorem bIe0 {p : Prop} [Decidable p] (h : ¬ p) : (0 : Int32) = bI p := (bI_f h).symm
theorem bIe1 {p : Prop} [Decidable p] (h : p) : (1 : Int32) = bI p := (bI_t h).symm
theorem nar_bI {p : Prop} [Decidable p] : narrow .boolean (.int (bI p)) = .int (bI p) := by
  unfold bI; split <;> rfl
/-- a branch on whether -/
theorem brB {p : Prop} [Decidable p] {A B : Prop} (h1 : ¬ p → A) (h2 : p → B) : (bI p = 0 → A) ∧ (¬ bI p = 0 → B) := ⟨fun h => h1 (bI_0.mp h), fun h => h2 (bI_n0.mp h)⟩
theorem brB' {p : Prop} [Decidable p] {A B : Prop} (h1 : ¬ p → A) (h2 : p → B) : (bI p = Int32.ofInt 0 → A) ∧ (¬ bI p = Int32.ofInt 0 → B) := brB h1 h2
set_option maxRecDepth 100000 in
theorem c_isBelow {l : Launch} {X : List (List Int32)} {hp : AH} (a b : Int32) : Ans l 0 X sgX7_isBelow [.int a, .int b] hp (bI (0 ≤ a ∧ a < b)) := by
  refine Ctr.of okX7_isBelow rfl (Nat.le_of_ble_eq_true rfl) (run_sound okX7_isBelow noCut 100 ?_)
  repeat' (first | refine br (fun _ => ?_) (fun _ => ?_) | refine And.intro rfl ?_)
  all_goals simp only [Int32.lt_iff_toInt_lt, Int32.le_iff_toInt_le, Int32.toInt_zero] at *
  · exact some_int (bIe0 (by omega))
  · exact some_int (bIe0 (by omega))
  · exact some_int (bIe1 (by omega))
set_option maxRecDepth 100000 in
theorem c_isByte {l : Launch} {X : List (List Int32)} {hp : AH} (a : Int32) : Ans l 0 X sgX7_isByte [.int a] hp (bI (0 ≤ a ∧ a ≤ 255)) := by
  refine Ctr.of okX7_isByte rfl (Nat.le_of_ble_eq_true rfl) (run_sound okX7_isByte noCut 100 ?_)
  repeat' (first | refine br (fun _ => ?_) (fun _ => ?_) | refine And.intro rfl ?_)
  all_goals simp only [Int32.lt_iff_toInt_lt, Int32.le_iff_toInt_le, Int32.toInt_zero, show (255 : Int32).toInt = 255 from rfl, show (Int32.ofInt 255).toInt = 255 from rfl] at *
  · exact some_int (bIe0 (by omega))
  · exact some_int (bIe0 (by omega))
  · exact some_int (bIe1 (by omega))
set_option maxRecDepth 100000 in
theorem c_isMore {l : Launch} {X : List (List Int32)} {hp : AH} (a : Int32) : Ans l 0 X sgX7_isMore [.int a] hp (bI (0 ≤ a ∧ a ≤ 9)) := by
  refine Ctr.of okX7_isMore rfl (Nat.le_of_ble_eq_true rfl) (run_sound okX7_isMore noCut 100 ?_)
  repeat' (first | refine br (fun _ => ?_) (fun _ => ?_) | refine And.intro rfl ?_)
  all_goals simp only [Int32.lt_iff_toInt_lt, Int32.le_iff_toInt_le, Int32.toInt_zero, show (9 : Int32).toInt = 9 from rfl, show (Int32.ofInt 9).toInt = 9 from rfl] at *
  · exact some_int (bIe0 (by omega))
  · exact some_int (bIe0 (by omega))
  · exact some_int (bIe1 (by omega))
set_option maxRecDepth 100000 in
theorem c_isKind {l : Launch} {X : List (List Int32)} {hp : AH} (a : Int32) : Ans l 1 X sgX7_isKind [.int a] hp (bI (0 ≤ a ∧ a < 6)) := by
  refine Ctr.of okX7_isKind rfl (Nat.le_of_ble_eq_true rfl) (run_sound okX7_isKind noCut 100 ?_)
  refine kH (c_isBelow _ _) (by decide) ?_
  exact ⟨nar_bI, rfl, rfl⟩
set_option maxRecDepth 100000 in
theorem c_isWorld {l : Launch} {X : List (List Int32)} {hp : AH} (a : Int32) : Ans l 1 X sgX7_isWorld [.int a] hp (bI (0 ≤ a ∧ a < 32)) := by
  refine Ctr.of okX7_isWorld rfl (Nat.le_of_ble_eq_true rfl) (run_sound okX7_isWorld noCut 100 ?_)
  refine kH (c_isBelow _ _) (by decide) ?_
  exact ⟨nar_bI, rfl, rfl⟩
/-- at, put: out of the row nothing -/
def atF (xs : List Int32) (i : Int32) : Int32 := if 0 ≤ i then xs.getD i.toNatClampNeg 0 else 0
def putF (xs : List Int32) (i v : Int32) : List Int32 := if 0 ≤ i then xs.set i.toNatClampNeg v else xs
theorem putF_len {xs : List Int32} {i v : Int32} : (putF xs i v).length = xs.length := by unfold putF; split <;> simp
theorem ge_of_not_lt {i : Int32} (h : ¬ i < 0) : 0 ≤ i := by
  rw [Int32.lt_iff_toInt_lt] at h; rw [Int32.le_iff_toInt_le]; omega
theorem nI_lt_len {i : Int32} {xs : List Int32} (h0 : 0 ≤ i) (hn : xs.length < 2 ^ 31) : Int32.ofNat xs.length ≤ i ↔ ¬ i.toNatClampNeg < xs.length := by
  rw [Int32.le_iff_toInt_le]
  have e1 : (Int32.ofNat xs.length).toInt = xs.length := Int32.toInt_ofNat_of_lt hn
  rw [e1]
  rw [Int32.le_iff_toInt_le, Int32.toInt_zero] at h0
  have e2 : (i.toNatClampNeg : Int) = i.toInt := by
    unfold Int32.toNatClampNeg
    omega
  omega
set_option maxRecDepth 100000 in
theorem c_at {l : Launch} {X : List (List Int32)} {hp : AH} {q : Nat} {xs : List Int32} {i : Int32} (hq : rowI X hp q = some xs) (hn : xs.length < 2 ^ 31) : Ans l 0 X sgX7_at [.ref q, .int i] hp (atF xs i) := by
  refine Ctr.of okX7_at rfl (Nat.le_of_ble_eq_true rfl) (run_sound okX7_at noCut 100 ?_)
  refine br (fun h1 => ⟨rfl, some_int ?_⟩) (fun h1 => Exists.intro xs (And.intro (rowA_of hq) (br (fun h2 => ⟨rfl, some_int ?_⟩) (fun h2 => Exists.intro xs (And.intro hq (And.intro ?_ ⟨rfl, some_int ?_⟩))))))
  · unfold atF
    rw [if_neg (fun z => absurd h1 (Int32.not_lt.mpr z))]
    rfl
  · have h0 := ge_of_not_lt h1
    have := (nI_lt_len h0 hn).mp h2
    unfold atF
    rw [if_pos h0, List.getD_eq_getElem?_getD, List.getElem?_eq_none (by omega)]
    rfl
  · have h0 := ge_of_not_lt h1
    exact vp_inI h0 (Classical.not_not.mp (fun z => h2 ((nI_lt_len h0 hn).mpr z)))
  · unfold atF
    rw [if_pos (ge_of_not_lt h1)]
set_option maxRecDepth 100000 in
theorem c_put {l : Launch} {X : List (List Int32)} {hp : AH} {q : Nat} {xs : List Int32} {i v : Int32} (hq : hp[q]? = some (AI xs)) (h1000 : Nat.ble 1000 q = false) (hn : xs.length < 2 ^ 31) : Ctr l 0 X sgX7_put [.ref q, .int i, .int v] hp (fun h w => h = hp.set q (AI (putF xs i v)) ∧ w = none) := by
  have hr : rowI X hp q = some xs := by unfold rowI; rw [h1000]; simp [hq]
  have hself : hp.set q (AI xs) = hp := by
    apply List.ext_getElem?
    intro j
    by_cases e : q = j
    · subst e
      rw [List.getElem?_set_self (List.getElem?_eq_some_iff.mp hq).1, hq]
    · rw [List.getElem?_set_ne e]
  refine Ctr.of okX7_put rfl (Nat.le_of_ble_eq_true rfl) (run_sound okX7_put noCut 100 ?_)
  refine br (fun h1 => ⟨rfl, ?_, rfl⟩) (fun h1 => Exists.intro xs (And.intro (rowA_of hr) (br (fun h2 => ⟨rfl, ?_, rfl⟩) (fun h2 => Exists.intro xs (And.intro hq (And.intro ?_ ⟨rfl, ?_, rfl⟩))))))
  · unfold putF
    rw [if_neg (fun z => absurd h1 (Int32.not_lt.mpr z)), hself]
  · have h0 := ge_of_not_lt h1
    have := (nI_lt_len h0 hn).mp h2
    unfold putF
    rw [if_pos h0, List.set_eq_of_length_le (l := xs) (by omega), hself]
  · have h0 := ge_of_not_lt h1
    exact vp_inI h0 (Classical.not_not.mp (fun z => h2 ((nI_lt_len h0 hn).mpr z)))
  · unfold putF
    rw [if_pos (ge_of_not_lt h1)]
def bitF (a i : Int32) : Int32 := (a.toUInt32 >>> (i.toUInt32 &&& Int32.toUInt32 31)).toInt32 &&& 1
set_option maxRecDepth 100000 in
theorem c_bit {l : Launch} {X : List (List Int32)} {hp : AH} (a i : Int32) : Ans l 0 X sgX7_bit [.int a, .int i] hp (bitF a i) :=
  Ctr.of okX7_bit rfl (Nat.le_of_ble_eq_true rfl) (run_sound okX7_bit noCut 100 ⟨rfl, rfl⟩)
def bitsF (a : Int32) : Int64 := a.toInt64 &&& 4294967295
set_option maxRecDepth 100000 in
theorem c_bits {l : Launch} {X : List (List Int32)} {hp : AH} (a : Int32) : AnsL l 0 X sgX7_bits [.int a] hp (bitsF a) :=
  Ctr.of okX7_bits rfl (Nat.le_of_ble_eq_true rfl) (run_sound okX7_bits noCut 100 ⟨rfl, rfl, rfl⟩)
def bc1 (x : Int32) : Int32 := x - ((x.toUInt32 >>> ((1 : Int32).toUInt32 &&& Int32.toUInt32 31)).toInt32 &&& 1431655765)
def bc2 (x : Int32) : Int32 := (x &&& 858993459) + ((x.toUInt32 >>> ((2 : Int32).toUInt32 &&& Int32.toUInt32 31)).toInt32 &&& 858993459)
def bc3 (x : Int32) : Int32 := (x + (x.toUInt32 >>> ((4 : Int32).toUInt32 &&& Int32.toUInt32 31)).toInt32) &&& 252645135
def bc4 (x : Int32) : Int32 := x + (x.toUInt32 >>> ((8 : Int32).toUInt32 &&& Int32.toUInt32 31)).toInt32
def bc5 (x : Int32) : Int32 := (x + (x.toUInt32 >>> ((16 : Int32).toUInt32 &&& Int32.toUInt32 31)).toInt32) &&& 63
/-- how many bits (Integer.bitCount) -/
def bcF (x : Int32) : Int32 := bc5 (bc4 (bc3 (bc2 (bc1 x))))
set_option maxRecDepth 100000 in
theorem c_bitCount {l : Launch} {X : List (List Int32)} {hp : AH} (x : Int32) : Ans l 0 X sgJ6_bitCount_0f7a4 [.int x] hp (bcF x) :=
  Ctr.of okJ6_bitCount_0f7a4 rfl (Nat.le_of_ble_eq_true rfl) (run_sound okJ6_bitCount_0f7a4 noCut 100 ⟨rfl, rfl⟩)
def fewerF (a b : Int32) : Int32 := if bcF a - bcF b < 0 ∨ (bcF a - bcF b = 0 ∧ a < b) then a else b
set_option maxRecDepth 100000 in
theorem c_fewer {l : Launch} {X : List (List Int32)} {hp : AH} (a b : Int32) : Ans l 1 X sgX7_fewer [.int a, .int b] hp (fewerF a b) := by
  refine Ctr.of okX7_fewer rfl (Nat.le_of_ble_eq_true rfl) (run_sound okX7_fewer noCut 100 ?_)
  refine kH (c_bitCount _) (by decide) ?_
  refine kH (c_bitCount _) (by decide) ?_
  refine br (fun h1 => ⟨rfl, some_int (if_pos (Or.inl h1)).symm⟩) (fun h1 => br (fun h2 => br (fun h3 => ⟨rfl, some_int ?_⟩) (fun h3 => ⟨rfl, some_int ?_⟩)) (fun h2 => ⟨rfl, some_int ?_⟩))
  · exact (if_neg (fun z => z.elim h1 (fun z => absurd z.2 (Int32.not_lt.mpr h3)))).symm
  · exact (if_pos (Or.inr ⟨h2, Int32.not_le.mp h3⟩)).symm
  · exact (if_neg (fun z => z.elim h1 (fun z => h2 z.1))).symm
