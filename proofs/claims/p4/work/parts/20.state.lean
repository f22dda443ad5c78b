/-! THE STATES: the class's objects at places 0 .. 26, the reference's at 27 .. 45; numbers by 10 times the place and the slot, rows by their place (the reference's: by the slot) -/
abbrev CS : Type := (Nat → Int32) × (Nat → List Int32)
abbrev MS : Type := (Nat → Int32) × (Nat → List Int32) × List Int64 × List Int64
def uf {α : Type} (f : Nat → α) (k : Nat) (v : α) : Nat → α := fun j => if j = k then v else f j
def cN (S : CS) (k : Nat) (v : Int32) : CS := (uf S.1 k v, S.2)
def cR (S : CS) (k : Nat) (v : List Int32) : CS := (S.1, uf S.2 k v)
def mN (M : MS) (k : Nat) (v : Int32) : MS := (uf M.1 k v, M.2)
def mR (M : MS) (k : Nat) (v : List Int32) : MS := (M.1, uf M.2.1 k v, M.2.2)
def encC (S : CS) : AH := [AO 7 [.ref 1, .ref 3, .ref 8, .ref 9, .ref 13, .ref 17, .ref 21, .ref 26, .int (S.1 8)],
  AO 6 [.ref 2, .int (S.1 11), .int (S.1 12), .int (S.1 13), .int (S.1 14), .int (S.1 15)], AI (S.2 2),
  AO 0 [.ref 4, .ref 5, .ref 6, .ref 7, .int (S.1 34), .int (S.1 35)], AI (S.2 4), AI (S.2 5), AI (S.2 6), AI (S.2 7),
  AO 1 [.ref 1, .ref 3],
  AO 5 [.ref 10, .ref 11, .ref 12, .int (S.1 93)], AI (S.2 10), AI (S.2 11), AI (S.2 12),
  AO 4 [.ref 14, .ref 15, .ref 16, .int (S.1 133), .int (S.1 134), .int (S.1 135)], AI (S.2 14), AI (S.2 15), AI (S.2 16),
  AO 4 [.ref 18, .ref 19, .ref 20, .int (S.1 173), .int (S.1 174), .int (S.1 175)], AI (S.2 18), AI (S.2 19), AI (S.2 20),
  AO 3 [.ref 22, .ref 23, .ref 24, .ref 25], AI (S.2 22), AI (S.2 23), AI (S.2 24), AI (S.2 25),
  AO 2 [.int (S.1 260), .int (S.1 261), .int (S.1 262), .int (S.1 263)]]
def encM (M : MS) : AH := [AO 8 [.int (M.1 0), .ref 28, .ref 29, .int (M.1 3), .ref 30, .ref 31, .int (M.1 6), .ref 32, .ref 33, .int (M.1 9), .int (M.1 10), .int (M.1 11), .int (M.1 12), .int (M.1 13), .int (M.1 14), .ref 34, .ref 35, .ref 36, .ref 37, .ref 38, .ref 39, .int (M.1 21), .int (M.1 22), .int (M.1 23), .int (M.1 24), .ref 40, .ref 41, .int (M.1 27), .int (M.1 28), .int (M.1 29), .ref 42, .ref 43, .ref 44, .ref 45, .int (M.1 34), .int (M.1 35), .int (M.1 36)],
  AI (M.2.1 1), AI (M.2.1 2), AI (M.2.1 4), AI (M.2.1 5), AI (M.2.1 7), AI (M.2.1 8), AI (M.2.1 15), AI (M.2.1 16), AI (M.2.1 17), AI (M.2.1 18), AI (M.2.1 19), AI (M.2.1 20), AI (M.2.1 25), AI (M.2.1 26), AI (M.2.1 30), AI (M.2.1 31), AL M.2.2.1, AL M.2.2.2]
/-- whether, as a number -/
def bI (p : Prop) [Decidable p] : Int32 := if p then 1 else 0
theorem bI_t {p : Prop} [Decidable p] (h : p) : bI p = 1 := if_pos h
theorem bI_f {p : Prop} [Decidable p] (h : ¬ p) : bI p = 0 := if_neg h
theorem bI_0 {p : Prop} [Decidable p] : bI p = 0 ↔ ¬ p := by unfold bI; split <;> simp [*]
theorem bI_n0 {p : Prop} [Decidable p] : ¬ bI p = 0 ↔ p := by unfold bI; split <;> simp [*]
/-- a method that only answers -/
def Pur (l : Launch) (d : Nat) (g : Sig) (as : List Value) (v : Int32) : Prop := ∀ (X : List (List Int32)) (hp : AH), Ctr l d X g as hp (fun h w => h = hp ∧ w = some (.int v))
def PurL (l : Launch) (d : Nat) (g : Sig) (as : List Value) (v : Int64) : Prop := ∀ (X : List (List Int32)) (hp : AH), Ctr l d X g as hp (fun h w => h = hp ∧ w = some (.long v))
section CALLK
variable {l : Launch} {R : Room} {X : List (List Int32)} {as r : List Value} {hp : AH} {k n d nx : Nat} {cs : Sig} {P : AH → Option Value → Prop}
theorem kI {v : Int32} (h : Pur l d cs as v) (hr : d + 1 ≤ R.frames ∧ 8 + (sL cs + 11) + 64 * d ≤ R.locals ∧ k + sC cs ≤ R.cells ∧ n + sS cs ≤ R.slots) (kk : P hp (some (.int v))) :
    ∃ (d' : Nat) (Rq : AH → Option Value → Prop), (d' + 1 ≤ R.frames ∧ 8 + (sL cs + 11) + 64 * d' ≤ R.locals ∧ k + sC cs ≤ R.cells ∧ n + sS cs ≤ R.slots) ∧ Ctr l d' X cs as hp Rq ∧ ∀ hp' w, Rq hp' w → P hp' w :=
  ⟨d, _, hr, h X hp, fun hp' w hw => by obtain ⟨rfl, rfl⟩ := hw; exact kk⟩
theorem kL {v : Int64} (h : PurL l d cs as v) (hr : d + 1 ≤ R.frames ∧ 8 + (sL cs + 11) + 64 * d ≤ R.locals ∧ k + sC cs ≤ R.cells ∧ n + sS cs ≤ R.slots) (kk : P hp (some (.long v))) :
    ∃ (d' : Nat) (Rq : AH → Option Value → Prop), (d' + 1 ≤ R.frames ∧ 8 + (sL cs + 11) + 64 * d' ≤ R.locals ∧ k + sC cs ≤ R.cells ∧ n + sS cs ≤ R.slots) ∧ Ctr l d' X cs as hp Rq ∧ ∀ hp' w, Rq hp' w → P hp' w :=
  ⟨d, _, hr, h X hp, fun hp' w hw => by obtain ⟨rfl, rfl⟩ := hw; exact kk⟩
/-- a call whose world and answer are known -/
theorem kH {h1 : AH} {v : Option Value} (h : Ctr l d X cs as hp (fun h w => h = h1 ∧ w = v)) (hr : d + 1 ≤ R.frames ∧ 8 + (sL cs + 11) + 64 * d ≤ R.locals ∧ k + sC cs ≤ R.cells ∧ n + sS cs ≤ R.slots) (kk : P h1 v) :
    ∃ (d' : Nat) (Rq : AH → Option Value → Prop), (d' + 1 ≤ R.frames ∧ 8 + (sL cs + 11) + 64 * d' ≤ R.locals ∧ k + sC cs ≤ R.cells ∧ n + sS cs ≤ R.slots) ∧ Ctr l d' X cs as hp Rq ∧ ∀ hp' w, Rq hp' w → P hp' w :=
  ⟨d, _, hr, h, fun hp' w hw => by obtain ⟨rfl, rfl⟩ := hw; exact kk⟩
end CALLK
theorem br {a b c d : Prop} (h1 : a → b) (h2 : c → d) : (a → b) ∧ (c → d) := ⟨h1, h2⟩
theorem brT {q t f : Prop} (hq : q) (h : t) : (q → t) ∧ (¬ q → f) := ⟨fun _ => h, fun z => absurd hq z⟩
theorem brF {q t f : Prop} (hq : ¬ q) (h : f) : (q → t) ∧ (¬ q → f) := ⟨fun z => absurd z hq, fun _ => h⟩
def noCut : Nat → Bool := fun _ => false
theorem vp_inI {i : Int32} {n : Nat} (h0 : 0 ≤ i) (h1 : i.toNatClampNeg < n) : vp_in i n := fun z => z.elim (fun z => absurd z (Int32.not_lt.mpr h0)) (fun z => by omega)
