/-! THE ABSTRACT MACHINE: methods run over a list of cells whose references are places; what it reaches, the machine itself reaches (part 03). -/
abbrev AC : Type := (Nat × List Value) ⊕ (List Int32 ⊕ List Int64)
abbrev AO (ci : Nat) (fs : List Value) : AC := .inl (ci, fs)
abbrev AI (xs : List Int32) : AC := .inr (.inl xs)
abbrev AL (xs : List Int64) : AC := .inr (.inr xs)
abbrev AH : Type := List AC
abbrev LO : Type := List (Option Value)
/-- a method: its name, bytes, locals, return type, how many arguments (the receiver too), cells and slots that it makes -/
abbrev Sig : Type := MethodName × ByteArray × Nat × Option FieldType × Nat × Nat × Nat
abbrev sY (g : Sig) : MethodName := g.1
abbrev sB (g : Sig) : ByteArray := g.2.1
abbrev sL (g : Sig) : Nat := g.2.2.1
abbrev sR (g : Sig) : Option FieldType := g.2.2.2.1
abbrev sA (g : Sig) : Nat := g.2.2.2.2.1
abbrev sC (g : Sig) : Nat := g.2.2.2.2.2.1
abbrev sS (g : Sig) : Nat := g.2.2.2.2.2.2
/-- a row: the instruction, its place, the next row, two numbers and a whole number of its kind, targets of a switch, the method that it calls -/
abbrev Row : Type := Instr × Nat × Nat × Nat × Nat × Int × List Nat × Sig
/-- the classes, what their fields are -/
def clTy : List (Nat → FieldType) := [tyX0, tyX1, tyX2, tyX3, tyX4, tyX5, tyX6, tyX7, tyX8]
/-- the length of the instructions that have one -/
def ilen : Instr → Nat
  | .aload _ | .astore _ | .iload _ | .istore _ | .lload _ | .lstore _ | .bipush _ | .ldc _ | .newarray _ => 2
  | .sipush _ | .ldc_w _ | .ldc2_w _ | .getfield _ | .putfield _ | .getstatic _ | .invokevirtual _ | .invokestatic _ | .invokespecial _ | .new _ | .goto _ | .if_icmp _ _ | .ifCond _ _ | .ifnull _ | .ifnonnull _ | .iinc _ _ => 3
  | _ => 1
def isNest : Cond → Bool
  | .fieldLinkNest _ _ _ _ _ _ => true
  | .methodLinkNest _ _ _ _ => true
  | _ => false
def NWL : List Cond := lw_tbl.filter isNest
/-- the String constants: their entries, texts, lengths, bytes; their places are 1100 .. and, their rows', 1200 .. -/
def sIx : List Nat := [61, 67, 69, 71, 73, 75, 77]
def sTx : List String := ["who", "once", "twice", "costs", "or", "and", "not"]
def lenS : List Nat := [3, 4, 5, 5, 2, 3, 3]
def bytS : List (List Int32) := [[119, 104, 111], [111, 110, 99, 101], [116, 119, 105, 99, 101], [99, 111, 115, 116, 115], [111, 114], [97, 110, 100], [110, 111, 116]]
def strF (b : Nat) : String × String := match b with
  | 0 => ("coder", "B")
  | _ => ("value", "[B")
def strQ (q : Nat) : Option Nat := match Nat.ble 1100 q && Nat.blt q 1107 with
  | true => some (q - 1100)
  | false => none
def bytQ (q : Nat) : Option Nat := match Nat.ble 1200 q && Nat.blt q 1207 with
  | true => some (q - 1200)
  | false => none
theorem strQ_spec {q i : Nat} (h : strQ q = some i) : q = 1100 + i ∧ i < 7 := by
  unfold strQ at h
  split at h
  · rename_i e
    simp only [Bool.and_eq_true] at e
    have h1 := Nat.le_of_ble_eq_true e.1
    have h2 := Nat.blt_eq.mp e.2
    have h3 := Option.some.inj h
    omega
  · cases h
theorem bytQ_spec {q i : Nat} (h : bytQ q = some i) : q = 1200 + i ∧ i < 7 := by
  unfold bytQ at h
  split at h
  · rename_i e
    simp only [Bool.and_eq_true] at e
    have h1 := Nat.le_of_ble_eq_true e.1
    have h2 := Nat.blt_eq.mp e.2
    have h3 := Option.some.inj h
    omega
  · cases h
