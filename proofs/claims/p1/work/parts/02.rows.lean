/-! THE ABSTRACT MACHINE: methods run over a list of cells whose references are places; what it reaches, the machine itself reaches (part 03). -/
abbrev AC : Type := (Nat × List Value) ⊕ (List Int32 ⊕ List Int64)
abbrev AO (ci : Nat) (fs : List Value) : AC := .inl (ci, fs)
abbrev AI (xs : List Int32) : AC := .inr (.inl xs)
abbrev AL (xs : List Int64) : AC := .inr (.inr xs)
abbrev AH : Type := List AC
abbrev LO : Type := List (Option Value)
/-- a method: its name, bytes, locals, return type, how many arguments (the receiver too), cells and slots that it makes -/
abbrev Sig : Type := MethodName × ByteArray × Nat × Option FieldType × Nat × Nat × Nat
abbrev sY (g : Sig) : MethodName := g.1
abbrev sB (g : Sig) : ByteArray := g.2.1
abbrev sL (g : Sig) : Nat := g.2.2.1
abbrev sR (g : Sig) : Option FieldType := g.2.2.2.1
abbrev sA (g : Sig) : Nat := g.2.2.2.2.1
abbrev sC (g : Sig) : Nat := g.2.2.2.2.2.1
abbrev sS (g : Sig) : Nat := g.2.2.2.2.2.2
/-- a row: the instruction, its place, the next row, two numbers and a whole number of its kind, targets of a switch, the method that it calls -/
abbrev Row : Type := Instr × Nat × Nat × Nat × Nat × Int × List Nat × Sig
/-- the classes, what their fields are -/
def clTy : List (Nat → FieldType) := [tyX0, tyX1, tyX2, tyX3, tyX4, tyX5, tyX6, tyX7, tyX8]
/-- the length of the instructions that have one -/
def ilen : Instr → Nat
  | .aload _ | .astore _ | .iload _ | .istore _ | .lload _ | .lstore _ | .bipush _ | .ldc _ | .newarray _ => 2
  | .sipush _ | .ldc_w _ | .ldc2_w _ | .getfield _ | .putfield _ | .getstatic _ | .invokevirtual _ | .invokestatic _ | .invokespecial _ | .new _ | .goto _ | .if_icmp _ _ | .ifCond _ _ | .ifnull _ | .ifnonnull _ | .iinc _ _ => 3
  | _ => 1
def isNest : Cond → Bool
  | .fieldLinkNest _ _ _ _ _ _ => true
  | .methodLinkNest _ _ _ _ => true
  | _ => false
def NWL : List Cond := lw_tbl.filter isNest
