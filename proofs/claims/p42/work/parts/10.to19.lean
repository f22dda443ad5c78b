/-! parts 10 .. 19, joined -/
section
-- 10.machine
abbrev PP : Type := Nat → LO → List Value → AH → Nat → Nat → Prop
abbrev PK : Type := List Value → Prop
def iU (f : Int32 → Int32) : List Value → PK → Prop
  | .int x :: r, K => K (.int (f x) :: r)
  | _, _ => False
def iB (f : Int32 → Int32 → Int32) : List Value → PK → Prop
  | .int y :: .int x :: r, K => K (.int (f x y) :: r)
  | _, _ => False
def iD (f : Int32 → Int32 → Int32) : List Value → PK → Prop
  | .int y :: .int x :: r, K => ¬ y = 0 ∧ K (.int (f x y) :: r)
  | _, _ => False
def jB (f : Int64 → Int64 → Int64) : List Value → PK → Prop
  | .long y :: .long x :: r, K => K (.long (f x y) :: r)
  | _, _ => False
def jD (f : Int64 → Int64 → Int64) : List Value → PK → Prop
  | .long y :: .long x :: r, K => ¬ y = 0 ∧ K (.long (f x y) :: r)
  | _, _ => False
def jS (f : Int64 → Int32 → Int64) : List Value → PK → Prop
  | .int y :: .long x :: r, K => K (.long (f x y) :: r)
  | _, _ => False
def jC : List Value → PK → Prop
  | .long y :: .long x :: r, K => K (.int (lg_cmp x y) :: r)
  | _, _ => False
def ijU : List Value → PK → Prop
  | .int x :: r, K => K (.long x.toInt64 :: r)
  | _, _ => False
def jiU : List Value → PK → Prop
  | .long x :: r, K => K (.int x.toInt32 :: r)
  | _, _ => False
def icC (q : Int32 → Int32 → Prop) : List Value → PK → PK → Prop
  | .int y :: .int x :: r, T, F => (q x y → T r) ∧ (¬ q x y → F r)
  | _, _, _ => False
def izC (q : Int32 → Prop) : List Value → PK → PK → Prop
  | .int x :: r, T, F => (q x → T r) ∧ (¬ q x → F r)
  | _, _, _ => False
def rfN : List Value → PK → Prop
  | .ref _ :: r, K => K r
  | _, _ => False
def ldI (ls : LO) (j : Nat) (K : Value → Prop) : Prop := match ls[j]? with
  | some (some (.int x)) => K (.int x)
  | _ => False
def ldL (ls : LO) (j : Nat) (K : Value → Prop) : Prop := match ls[j]? with
  | some (some (.long x)) => K (.long x)
  | _ => False
def ldA (ls : LO) (j : Nat) (K : Value → Prop) : Prop := match ls[j]? with
  | some (some (.ref x)) => K (.ref x)
  | _ => False
def stO : LO → Nat → Value → (LO → Prop) → Prop
  | [], _, _, _ => False
  | _ :: r, 0, v, K => K (some v :: r)
  | x :: r, j + 1, v, K => match j, x with
    | 0, some (.long _) => False
    | 0, some (.double _) => False
    | _, _ => stO r j v (fun r' => K (x :: r'))
def stT : LO → Nat → Value → (LO → Prop) → Prop
  | [], _, _, _ => False
  | _ :: r, 0, v, K => match r with
    | [] => False
    | _ :: r' => K (some v :: none :: r')
  | x :: r, j + 1, v, K => match j, x with
    | 0, some (.long _) => False
    | 0, some (.double _) => False
    | _, _ => stT r j v (fun r' => K (x :: r'))
def stI (ls : LO) (j : Nat) (st : List Value) (K : LO → List Value → Prop) : Prop := match st with
  | .int x :: r => stO ls j (.int x) (fun ls' => K ls' r)
  | _ => False
def stA (ls : LO) (j : Nat) (st : List Value) (K : LO → List Value → Prop) : Prop := match st with
  | .ref x :: r => stO ls j (.ref x) (fun ls' => K ls' r)
  | _ => False
def stL (ls : LO) (j : Nat) (st : List Value) (K : LO → List Value → Prop) : Prop := match st with
  | .long x :: r => stT ls j (.long x) (fun ls' => K ls' r)
  | _ => False
/-- a cell put in place of another -/
def seH : AH → Nat → AC → (AH → Prop) → Prop
  | [], _, _, _ => False
  | _ :: r, 0, c, K => K (c :: r)
  | x :: r, j + 1, c, K => seH r j c (fun r' => K (x :: r'))
def seV : List Value → Nat → Value → (List Value → Prop) → Prop
  | [], _, _, _ => False
  | _ :: r, 0, c, K => K (c :: r)
  | x :: r, j + 1, c, K => seV r j c (fun r' => K (x :: r'))
def popN : Nat → List Value → List Value → (List Value → List Value → Prop) → Prop
  | 0, acc, st, K => K acc st
  | n + 1, acc, v :: st, K => popN n (v :: acc) st K
  | _ + 1, _, [], _ => False
def catN : List Value → Nat
  | [] => 0
  | v :: r => v.category + catN r
def rOk (n : Nat) : Value → Bool
  | .ref k => Nat.blt k n || Nat.ble 1000 k
  | _ => true
def rOkS (n : Nat) (vs : List Value) : Bool := vs.all (rOk n)
def rOkL (n : Nat) (ls : LO) : Bool := ls.all (fun o => match o with | some v => rOk n v | none => true)
def rOkC (n : Nat) : AC → Bool
  | .inl o => rOkS n o.2
  | .inr _ => true
def rOkH (n : Nat) (hp : AH) : Bool := hp.all (rOkC n)
def swT (x : Int32) : Int → List Nat → (Nat → Prop) → Prop
  | _, [], _ => True
  | lo, t :: ts, K => (x = Int32.ofInt lo → K t) ∧ swT x (lo + 1) ts K
def swL (x : Int32) : List (Int × Int) → List Nat → (Nat → Prop) → Prop
  | a :: as, t :: ts, K => (x = Int32.ofInt a.1 → K t) ∧ swL x as ts K
  | _, _, _ => True
def dfl (ci N : Nat) : List Value := (List.range N).map (fun j => defaultValue ((clTy.getD ci tyX0) j))
def putOk (ty : FieldType) (v : Value) : Prop := match ty, v with
  | .int, .int _ => True
  | .boolean, .int x => x = 0 ∨ x = 1
  | .object _, .ref _ => True
  | .array _, .ref _ => True
  | _, _ => False
def retOk (rt : Option FieldType) (x : Int32) (K : Prop) : Prop := match rt with
  | some .int => K
  | some t => narrow t (.int x) = .int x ∧ K
  | none => False
def rmD (d : Nat) (mc ms : Nat) : Room := { frames := d, cells := mc, slots := ms, locals := 64 * d }
def ctys (tc : Nat → Nat) : List (ClassId × FieldType) := [(tc 0, .int), (tc 1, .long)]
def cV (ad : Nat → Nat) : Value → Value
  | .ref k => .ref (ad k)
  | v => v
def cE (ad tc : Nat → Nat) : AC → va_E
  | .inl o => .inr (o.1, o.2.map (cV ad))
  | .inr (.inl xs) => .inl (tc 0, xs.length, .inl (fun j => xs.getD j 0))
  | .inr (.inr xs) => .inl (tc 1, xs.length, .inr (.inl (fun j => xs.getD j 0)))
def cW (ad tc : Nat → Nat) (hp : AH) : va_W := hp.mapIdx (fun k c => (ad k, cE ad tc c))
/-- a row that is only read -/
def roX (a : Nat) (xs : List Int32) (U : State) (H : Heap) : Prop := ∃ cell : Cell, H[a]? = some cell ∧ U.isArrayOf cell .int ∧ cell.vm ≠ .unknown ∧ xs.length ≤ cell.slots.size ∧ cell.slots.size.toInt32 = Int32.ofNat xs.length ∧ ∀ j : Nat, j < xs.length → cell.slots[j]? = some (.int (xs.getD j 0))
/-- the String constants, and what of the library's own statics their methods read -/
def EFS (xa : Nat → Nat) (A : Nat → Prop) (U : State) : Prop :=
  vk_S 7 lenS bytS (fun i => xa (100 + i)) (fun i => xa (200 + i)) A U U.heap ∧ (∀ (i ix : Nat) (tx : String), sIx[i]? = some ix → sTx[i]? = some tx → vk_R "SaidTwice$Tokens" ix tx (xa (100 + i)) U) ∧ va_Z "java/lang/String" "COMPACT_STRINGS" "Z" (.int 1) A U U.heap ∧
    (va_Z "jdk/internal/util/Preconditions" "SIOOBE_FORMATTER" "Ljava/util/function/BiFunction;" .null A U U.heap ∨ va_Z "jdk/internal/util/Preconditions" "SIOOBE_FORMATTER" "Ljava/util/function/BiFunction;" (.ref (xa 300)) A U U.heap)
/-- what stays: classes, nest words, the static row, rows that are only read -/
def EF (X : List (List Int32)) (D : va_G) (tc xa : Nat → Nat) (A : Nat → Prop) (U : State) : Prop :=
  va_K D vwCl (ctys tc) U ∧ (∀ w ∈ NWL, va_Nw w U) ∧ va_Z "SaidTwice" "SO_IN" "[I" (.ref (xa 0)) A U U.heap ∧ (∀ (j : Nat) (xs : List Int32), X[j]? = some xs → roX (xa j) xs U U.heap ∧ xa j < U.heap.size ∧ ¬ A (xa j)) ∧ EFS xa A U
def sgW (g : Sig) : List Cond := Cond.code (sY g) (sB g) (sL g) (sR g) :: TBL
/-- the addresses that were there stay; of a method that makes no cell, all -/
def adK (n : Nat) (mc : Nat) (ad ad' : Nat → Nat) : Prop := (∀ k, k < n ∨ 1000 ≤ k → ad' k = ad k) ∧ (mc = 0 → ad' = ad)
/-- the world before a method -/
def CPre (X : List (List Int32)) (D : va_G) (tc ad : Nat → Nat) (sz : Nat) (hp : AH) : State → Prop := fun U => U.heap.size = sz ∧ va_P D vwCl (cW ad tc hp) U.heap ∧ va_D (fun _ => True) (cW ad tc hp) ∧ EF X D tc (fun j => ad (1000 + j)) (va_A (cW ad tc hp) sz) U
/-- the world behind it -/
def CPost (mc : Nat) (D : va_G) (tc ad : Nat → Nat) (sz : Nat) (hp : AH) (R : AH → Option Value → Prop) : Array Value → State → Outcome → State → Prop :=
  fun _ st oc t => (∃ (v : Option Value) (hp' : AH) (ad' : Nat → Nat), oc = .returned (v.map (cV ad')) ∧ R hp' v ∧ adK hp.length mc ad ad' ∧ hp.length ≤ hp'.length ∧ va_P D vwCl (cW ad' tc hp') t.heap ∧ va_D (va_A (cW ad tc hp) sz) (cW ad' tc hp')) ∧ va_F (va_A (cW ad tc hp) sz) st t
/-- A CONTRACT: over any heap that holds the picture, the method returns, with R of the picture behind it and the answer -/
def Ctr (l : Launch) (d : Nat) (X : List (List Int32)) (g : Sig) (as : List Value) (hp : AH) (R : AH → Option Value → Prop) : Prop :=
  ∀ (D : va_G) (tc ad : Nat → Nat) (sz : Nat), Met l (sY g) (sgW g) (rmD d (sC g) (sS g)) (va_Pc (as.map (cV ad)) (CPre X D tc ad sz hp)) (CPost (sC g) D tc ad sz hp R) (sC g) (sS g) (va_A (cW ad tc hp) sz)
/-- a row of ints: of those that are only read, or of the cells -/
def rowI (X : List (List Int32)) (hp : AH) (q : Nat) : Option (List Int32) := match Nat.ble 1000 q with
  | true => match Nat.ble 1100 q with
    | true => none
    | false => X[q - 1000]?
  | false => match hp[q]? with
    | some (.inr (.inl xs)) => some xs
    | _ => none
/-- a row whose length is asked for: of the String constants', too -/
def rowA (X : List (List Int32)) (hp : AH) (q : Nat) : Option (List Int32) := match rowI X hp q with
  | some xs => some xs
  | none => match bytQ q with
    | some i => some (bytS.getD i [])
    | none => none
theorem rowA_of {X : List (List Int32)} {hp : AH} {q : Nat} {xs : List Int32} (h : rowI X hp q = some xs) : rowA X hp q = some xs := by
  unfold rowA
  rw [h]
theorem rowA_spec {X : List (List Int32)} {hp : AH} {q : Nat} {xs : List Int32} (h : rowA X hp q = some xs) : rowI X hp q = some xs ∨ ∃ i, bytQ q = some i ∧ xs = bytS.getD i [] := by
  unfold rowA at h
  split at h
  · rename_i ys hy
    exact Or.inl (hy.trans h)
  · split at h
    · rename_i i hi
      exact Or.inr ⟨i, hi, (Option.some.inj h).symm⟩
    · cases h
/-- one instruction -/
def stp (l : Launch) (R : Room) (X : List (List Int32)) (g : Sig) (code : List Row) (Q : AH → Option Value → Prop) (P : PP) : PP := fun i ls st hp k n =>
  match code[i]? with
  | none => False
  | some (ins, _, nx, a, b, c, ts, cs) =>
    match ins with
    | .aload_n j => ldA ls j.val (fun v => P nx ls (v :: st) hp k n)
    | .aload j => ldA ls j (fun v => P nx ls (v :: st) hp k n)
    | .iload_n j => ldI ls j.val (fun v => P nx ls (v :: st) hp k n)
    | .iload j => ldI ls j (fun v => P nx ls (v :: st) hp k n)
    | .lload_n j => ldL ls j.val (fun v => P nx ls (v :: st) hp k n)
    | .lload j => ldL ls j (fun v => P nx ls (v :: st) hp k n)
    | .istore_n j => stI ls j.val st (fun ls' r => P nx ls' r hp k n)
    | .istore j => stI ls j st (fun ls' r => P nx ls' r hp k n)
    | .astore_n j => stA ls j.val st (fun ls' r => P nx ls' r hp k n)
    | .astore j => stA ls j st (fun ls' r => P nx ls' r hp k n)
    | .lstore_n j => stL ls j.val st (fun ls' r => P nx ls' r hp k n)
    | .lstore j => stL ls j st (fun ls' r => P nx ls' r hp k n)
    | .iinc j _ => ldI ls j (fun v => match v with
      | .int x => stO ls j (.int (x + Int32.ofInt c)) (fun ls' => P nx ls' st hp k n)
      | _ => False)
    | .iconst _ => P nx ls (.int (Int32.ofInt c) :: st) hp k n
    | .bipush _ => P nx ls (.int (Int32.ofInt c) :: st) hp k n
    | .sipush _ => P nx ls (.int (Int32.ofInt c) :: st) hp k n
    | .lconst _ => P nx ls (.long (Int64.ofInt c) :: st) hp k n
    | .ldc _ => match Nat.beq a 50 with
      | true => P nx ls (.ref (1100 + b) :: st) hp k n
      | false => P nx ls (.int (Int32.ofInt c) :: st) hp k n
    | .ldc_w _ => P nx ls (.int (Int32.ofInt c) :: st) hp k n
    | .ldc2_w _ => P nx ls (.long (Int64.ofInt c) :: st) hp k n
    | .iadd => iB (fun x y => x + y) st (fun r => P nx ls r hp k n)
    | .isub => iB (fun x y => x - y) st (fun r => P nx ls r hp k n)
    | .imul => iB (fun x y => x * y) st (fun r => P nx ls r hp k n)
    | .iand => iB (fun x y => x &&& y) st (fun r => P nx ls r hp k n)
    | .ior => iB (fun x y => x ||| y) st (fun r => P nx ls r hp k n)
    | .ixor => iB (fun x y => x ^^^ y) st (fun r => P nx ls r hp k n)
    | .idiv => iD (fun x y => x / y) st (fun r => P nx ls r hp k n)
    | .irem => iD (fun x y => x - x / y * y) st (fun r => P nx ls r hp k n)
    | .ineg => iU (fun x => -x) st (fun r => P nx ls r hp k n)
    | .ishl => iB (fun x y => x <<< (y &&& 31)) st (fun r => P nx ls r hp k n)
    | .ishr => iB (fun x y => x >>> (y &&& 31)) st (fun r => P nx ls r hp k n)
    | .iushr => iB (fun x y => (x.toUInt32 >>> (y.toUInt32 &&& Int32.toUInt32 31)).toInt32) st (fun r => P nx ls r hp k n)
    | .i2c => iU (fun x => (x.toUInt32 % 65536).toInt32) st (fun r => P nx ls r hp k n)
    | .i2b => iU (fun x => x.toInt8.toInt32) st (fun r => P nx ls r hp k n)
    | .i2s => iU (fun x => x.toInt16.toInt32) st (fun r => P nx ls r hp k n)
    | .i2l => ijU st (fun r => P nx ls r hp k n)
    | .l2i => jiU st (fun r => P nx ls r hp k n)
    | .ladd => jB (fun x y => x + y) st (fun r => P nx ls r hp k n)
    | .lmul => jB (fun x y => x * y) st (fun r => P nx ls r hp k n)
    | .land => jB (fun x y => x &&& y) st (fun r => P nx ls r hp k n)
    | .lor => jB (fun x y => x ||| y) st (fun r => P nx ls r hp k n)
    | .lxor => jB (fun x y => x ^^^ y) st (fun r => P nx ls r hp k n)
    | .ldiv => jD (fun x y => x / y) st (fun r => P nx ls r hp k n)
    | .lrem => jD (fun x y => x - x / y * y) st (fun r => P nx ls r hp k n)
    | .lshl => jS (fun x y => x <<< (y.toInt64 &&& 63)) st (fun r => P nx ls r hp k n)
    | .lshr => jS (fun x y => x >>> (y.toInt64 &&& 63)) st (fun r => P nx ls r hp k n)
    | .lcmp => jC st (fun r => P nx ls r hp k n)
    | .dup => match st with
      | v :: r => v.category = 1 ∧ P nx ls (v :: v :: r) hp k n
      | _ => False
    | .pop => match st with
      | v :: r => v.category = 1 ∧ P nx ls r hp k n
      | _ => False
    | .pop2 => match st with
      | v :: r => v.category = 2 ∧ P nx ls r hp k n
      | _ => False
    | .goto _ => P a ls st hp k n
    | .ifCond .eq _ => izC (fun x => x = 0) st (fun r => P a ls r hp k n) (fun r => P nx ls r hp k n)
    | .ifCond .ne _ => izC (fun x => x = 0) st (fun r => P nx ls r hp k n) (fun r => P a ls r hp k n)
    | .ifCond .lt _ => izC (fun x => x < 0) st (fun r => P a ls r hp k n) (fun r => P nx ls r hp k n)
    | .ifCond .ge _ => izC (fun x => 0 ≤ x) st (fun r => P a ls r hp k n) (fun r => P nx ls r hp k n)
    | .ifCond .gt _ => izC (fun x => 0 < x) st (fun r => P a ls r hp k n) (fun r => P nx ls r hp k n)
    | .ifCond .le _ => izC (fun x => x ≤ 0) st (fun r => P a ls r hp k n) (fun r => P nx ls r hp k n)
    | .if_icmp .eq _ => icC (fun x y => x = y) st (fun r => P a ls r hp k n) (fun r => P nx ls r hp k n)
    | .if_icmp .ne _ => icC (fun x y => x = y) st (fun r => P nx ls r hp k n) (fun r => P a ls r hp k n)
    | .if_icmp .lt _ => icC (fun x y => x < y) st (fun r => P a ls r hp k n) (fun r => P nx ls r hp k n)
    | .if_icmp .ge _ => icC (fun x y => y ≤ x) st (fun r => P a ls r hp k n) (fun r => P nx ls r hp k n)
    | .if_icmp .gt _ => icC (fun x y => y < x) st (fun r => P a ls r hp k n) (fun r => P nx ls r hp k n)
    | .if_icmp .le _ => icC (fun x y => x ≤ y) st (fun r => P a ls r hp k n) (fun r => P nx ls r hp k n)
    | .ifnull _ => rfN st (fun r => P nx ls r hp k n)
    | .ifnonnull _ => rfN st (fun r => P a ls r hp k n)
    | .tableswitch _ lo hi _ => match st with
      | .int x :: r => (x.toInt < lo ∨ hi < x.toInt → P a ls r hp k n) ∧ swT x lo ts (fun t => P t ls r hp k n)
      | _ => False
    | .lookupswitch _ ps => match st with
      | .int x :: r => ((∀ p ∈ ps.toList, ¬ x = Int32.ofInt p.1) → P a ls r hp k n) ∧ swL x ps.toList ts (fun t => P t ls r hp k n)
      | _ => False
    | .arraylength => match st with
      | .ref q :: r => ∃ xs, rowA X hp q = some xs ∧ P nx ls (.int (Int32.ofNat xs.length) :: r) hp k n
      | _ => False
    | .baload => match st with
      | .int j :: .ref q :: r => match bytQ q with
        | some i => vp_in j (lenS.getD i 0) ∧ P nx ls (.int ((bytS.getD i []).getD j.toNatClampNeg 0) :: r) hp k n
        | none => False
      | _ => False
    | .iaload => match st with
      | .int j :: .ref q :: r => ∃ xs, rowI X hp q = some xs ∧ vp_in j xs.length ∧ P nx ls (.int (xs.getD j.toNatClampNeg 0) :: r) hp k n
      | _ => False
    | .iastore => match st with
      | .int x :: .int j :: .ref q :: r => ∃ xs, hp[q]? = some (AI xs) ∧ vp_in j xs.length ∧ P nx ls r (hp.set q (AI (xs.set j.toNatClampNeg x))) k n
      | _ => False
    | .laload => match st with
      | .int j :: .ref q :: r => ∃ xs, hp[q]? = some (AL xs) ∧ vp_in j xs.length ∧ P nx ls (.long (xs.getD j.toNatClampNeg 0) :: r) hp k n
      | _ => False
    | .lastore => match st with
      | .long x :: .int j :: .ref q :: r => ∃ xs, hp[q]? = some (AL xs) ∧ vp_in j xs.length ∧ P nx ls r (hp.set q (AL (xs.set j.toNatClampNeg x))) k n
      | _ => False
    | .getfield _ => match st with
      | .ref q :: r => match Nat.beq a 50 with
        | true => match strQ q with
          | some i => match Nat.beq b 0 with
            | true => P nx ls (.int 0 :: r) hp k n
            | false => P nx ls (.ref (1200 + i) :: r) hp k n
          | none => False
        | false => match hp[q]? with
          | some (.inl (ci, fs)) => match Nat.beq ci a, fs[b]? with
            | true, some v => P nx ls (v :: r) hp k n
            | _, _ => False
          | _ => False
      | _ => False
    | .putfield _ => match st with
      | v :: .ref q :: r => match hp[q]? with
        | some (.inl (ci, fs)) => match Nat.beq ci a with
          | true => putOk ((clTy.getD a tyX0) b) v ∧ seV fs b v (fun fs' => seH hp q (AO ci fs') (fun hp' => P nx ls r hp' k n))
          | false => False
        | _ => False
      | _ => False
    | .getstatic _ => match Nat.beq a 51, Nat.beq a 52 with
      | true, _ => P nx ls (.int 1 :: st) hp k n
      | false, true => P nx ls (.null :: st) hp k n ∧ P nx ls (.ref 1300 :: st) hp k n
      | false, false => P nx ls (.ref 1000 :: st) hp k n
    | .new _ => match vwCl[a]? with
      | some (_, _, N) => (rOkH hp.length hp && (rOkS hp.length st && rOkL hp.length ls)) = true ∧ (k + 1 ≤ R.cells ∧ n + N ≤ R.slots) ∧ hp.length < 1000 ∧ P nx ls (.ref hp.length :: st) (hp ++ [AO a (dfl a N)]) (k + 1) (n + N)
      | none => False
    | .newarray t => match st with
      | .int x :: r => match t with
        | .int => (rOkH hp.length hp && (rOkS hp.length st && rOkL hp.length ls)) = true ∧ (k + 1 ≤ R.cells ∧ n + x.toNatClampNeg ≤ R.slots) ∧ hp.length < 1000 ∧ (¬ x < 0 ∧ x.toNatClampNeg ≤ 10000) ∧ P nx ls (.ref hp.length :: r) (hp ++ [AI (List.replicate x.toNatClampNeg 0)]) (k + 1) (n + x.toNatClampNeg)
        | .long => (rOkH hp.length hp && (rOkS hp.length st && rOkL hp.length ls)) = true ∧ (k + 1 ≤ R.cells ∧ n + x.toNatClampNeg ≤ R.slots) ∧ hp.length < 1000 ∧ (¬ x < 0 ∧ x.toNatClampNeg ≤ 10000) ∧ P nx ls (.ref hp.length :: r) (hp ++ [AL (List.replicate x.toNatClampNeg 0)]) (k + 1) (n + x.toNatClampNeg)
        | _ => False
      | _ => False
    | .invokevirtual _ => popN (sA cs) [] st (fun as r => match as with
      | .ref q :: _ => match Nat.beq a 50 with
        | true => match strQ q, Nat.ble (catN r) 8, Nat.beq (sC cs) 0 with
          | some _, true, true => ∃ (d' : Nat) (Rq : AH → Option Value → Prop), (d' + 1 ≤ R.frames ∧ 8 + (sL cs + 11) + 64 * d' ≤ R.locals ∧ k + sC cs ≤ R.cells ∧ n + sS cs ≤ R.slots) ∧ Ctr l d' X cs as hp Rq ∧ ∀ hp' v, Rq hp' v → P nx ls (v.toList ++ r) hp' (k + sC cs) (n + sS cs)
          | _, _, _ => False
        | false => match hp[q]? with
          | some (.inl (ci, _)) => match Nat.beq ci a, Nat.ble (catN r) 8, (Nat.beq (sC cs) 0 || (rOkS hp.length r && rOkL hp.length ls)) with
            | true, true, true => ∃ (d' : Nat) (Rq : AH → Option Value → Prop), (d' + 1 ≤ R.frames ∧ 8 + (sL cs + 11) + 64 * d' ≤ R.locals ∧ k + sC cs ≤ R.cells ∧ n + sS cs ≤ R.slots) ∧ Ctr l d' X cs as hp Rq ∧ ∀ hp' v, Rq hp' v → P nx ls (v.toList ++ r) hp' (k + sC cs) (n + sS cs)
            | _, _, _ => False
          | _ => False
      | _ => False)
    | .invokestatic _ => match Nat.beq b 7, Nat.beq b 8 with
      | true, _ => match st with
        | .int y :: .int x :: r => (Nat.ble (catN r) 8 = true ∧ 1 ≤ R.frames ∧ 21 ≤ R.locals) ∧ P nx ls (.int (if x < y then y else x) :: r) hp k n
        | _ => False
      | _, true => match st with
        | .int y :: .int x :: r => (Nat.ble (catN r) 8 = true ∧ 1 ≤ R.frames ∧ 21 ≤ R.locals) ∧ P nx ls (.int (if y < x then y else x) :: r) hp k n
        | _ => False
      | false, false => popN (sA cs) [] st (fun as r => match Nat.ble (catN r) 8, (Nat.beq (sC cs) 0 || (rOkS hp.length r && rOkL hp.length ls)) with
        | true, true => ∃ (d' : Nat) (Rq : AH → Option Value → Prop), (d' + 1 ≤ R.frames ∧ 8 + (sL cs + 11) + 64 * d' ≤ R.locals ∧ k + sC cs ≤ R.cells ∧ n + sS cs ≤ R.slots) ∧ Ctr l d' X cs as hp Rq ∧ ∀ hp' v, Rq hp' v → P nx ls (v.toList ++ r) hp' (k + sC cs) (n + sS cs)
        | _, _ => False)
    | .invokespecial _ => match Nat.beq b 9 with
      | true => match st with
        | .ref _ :: r => match Nat.ble (catN r) 8 with
          | true => (1 ≤ R.frames ∧ 20 ≤ R.locals) ∧ P nx ls r hp k n
          | false => False
        | _ => False
      | false => popN (sA cs) [] st (fun as r => match as with
        | .ref _ :: _ => match Nat.ble (catN r) 8, (Nat.beq (sC cs) 0 || (rOkS hp.length r && rOkL hp.length ls)) with
          | true, true => ∃ (d' : Nat) (Rq : AH → Option Value → Prop), (d' + 1 ≤ R.frames ∧ 8 + (sL cs + 11) + 64 * d' ≤ R.locals ∧ k + sC cs ≤ R.cells ∧ n + sS cs ≤ R.slots) ∧ Ctr l d' X cs as hp Rq ∧ ∀ hp' v, Rq hp' v → P nx ls (v.toList ++ r) hp' (k + sC cs) (n + sS cs)
          | _, _ => False
        | _ => False)
    | .ireturn => match st with
      | .int x :: [] => retOk (sR g) x (Q hp (some (.int x)))
      | _ => False
    | .lreturn => match st with
      | .long x :: [] => sR g = some .long ∧ Q hp (some (.long x))
      | _ => False
    | .return_ => match st with
      | [] => sR g = none ∧ Q hp none
      | _ => False
    | _ => False
/-- many instructions, up to the rows that are cut -/
def run (l : Launch) (R : Room) (X : List (List Int32)) (g : Sig) (code : List Row) (cut : Nat → Bool) (Q : AH → Option Value → Prop) (P : PP) : Nat → PP
  | 0 => P
  | m + 1 => stp l R X g code Q (fun i ls st hp k n => match cut i with
    | true => P i ls st hp k n
    | false => run l R X g code cut Q P m i ls st hp k n)
end
section
-- 11.sound1
theorem nest_warm {w : Cond} (h : isNest w = true) {s U : State} (hW : s.WarmedH U.vm) (hZ : va_Nw w s) : va_Nw w U := by
  cases w <;> first | exact va_Nw.warmF hW hZ | exact va_Nw.warmM hW hZ | (simp [isNest] at h)
theorem nest_same {w : Cond} (h : isNest w = true) {u U : State} (hv : u.vm = U.vm) (hZ : va_Nw w u) : va_Nw w U := by
  cases w <;> first | exact va_Nw.same rfl hv hZ | (simp [isNest] at h)
theorem cW_get {ad tc : Nat → Nat} {hp : AH} {k : Nat} {c : AC} (h : hp[k]? = some c) : (cW ad tc hp)[k]? = some (ad k, cE ad tc c) := by
  simp [cW, h]
theorem cW_set {ad tc : Nat → Nat} {hp : AH} {k : Nat} {c : AC} : (cW ad tc hp).set k (ad k, cE ad tc c) = cW ad tc (hp.set k c) := by
  apply List.ext_getElem?
  intro j
  by_cases hj : k = j
  · subst hj
    by_cases hl : k < hp.length
    · simp [cW, List.getElem?_set, hl]
    · simp [cW, List.getElem?_set, hl]
  · simp [cW, List.getElem?_set, hj]
theorem cV_cat (ad : Nat → Nat) (v : Value) : (cV ad v).category = v.category := by cases v <;> rfl
theorem rOk_cV {n : Nat} {ad ad' : Nat → Nat} (h : ∀ k, k < n ∨ 1000 ≤ k → ad' k = ad k) : ∀ v, rOk n v = true → cV ad' v = cV ad v := by
  intro v hv
  cases v with
  | ref k =>
    simp only [rOk, Bool.or_eq_true] at hv
    have : k < n ∨ 1000 ≤ k := hv.imp (fun q => Nat.blt_eq.mp q) (fun q => Nat.le_of_ble_eq_true q)
    simp [cV, h k this]
  | _ => rfl
theorem rOkS_map {n : Nat} {ad ad' : Nat → Nat} (h : ∀ k, k < n ∨ 1000 ≤ k → ad' k = ad k) (vs : List Value) (hv : rOkS n vs = true) : vs.map (cV ad') = vs.map (cV ad) := by
  apply List.map_congr_left
  intro v hm
  exact rOk_cV h v (List.all_eq_true.mp hv v hm)
theorem rOkH_cW {n : Nat} {ad ad' tc : Nat → Nat} {hp : AH} (h : ∀ k, k < n ∨ 1000 ≤ k → ad' k = ad k) (hn : hp.length = n) (hv : rOkH n hp = true) : cW ad' tc hp = cW ad tc hp := by
  apply List.ext_getElem?
  intro j
  simp only [cW, List.getElem?_mapIdx]
  cases hj : hp[j]? with
  | none => rfl
  | some c =>
    have hl : j < n := by rw [← hn]; exact (List.getElem?_eq_some_iff.mp hj).1
    have hc := List.all_eq_true.mp hv c (List.mem_of_getElem? hj)
    simp only [Option.map_some, h j (Or.inl hl)]
    cases c with
    | inl o => simp only [cE, rOkS_map h o.2 hc]
    | inr q => cases q <;> rfl
/-- the locals -/
def LR (ad : Nat → Nat) (nL : Nat) (al : LO) (ls : Array Slot) : Prop := al.length = nL ∧ ls.size = nL ∧ lv_wf ls ∧ ∀ (j : Nat) (v : Value), al[j]? = some (some v) → ls[j]? = some (.val (cV ad v))
def asL (ad : Nat → Nat) (al : LO) : List (Nat × Value) := (List.range al.length).filterMap (fun j => match al[j]? with
  | some (some v) => some (j, cV ad v)
  | _ => none)
theorem asL_mem {ad : Nat → Nat} {al : LO} {j : Nat} {v : Value} (h : al[j]? = some (some v)) : (j, cV ad v) ∈ asL ad al := by
  refine List.mem_filterMap.mpr ⟨j, List.mem_range.mpr (List.getElem?_eq_some_iff.mp h).1, ?_⟩
  simp [h]
theorem LR.has {ad : Nat → Nat} {nL : Nat} {al : LO} {ls : Array Slot} (h : LR ad nL al ls) : lv_has ls nL (asL ad al) := by
  obtain ⟨h0, h1, h2, h3⟩ := h
  refine ⟨h1, h2, fun q hq => ?_⟩
  obtain ⟨j, -, hj⟩ := List.mem_filterMap.mp hq
  split at hj
  · rename_i v hv
    cases hj
    exact h3 j v hv
  · cases hj
theorem LR.kept {ad ad' : Nat → Nat} {n nL : Nat} {al : LO} {ls : Array Slot} (h : LR ad nL al ls) (ha : ∀ k, k < n ∨ 1000 ≤ k → ad' k = ad k) (ho : rOkL n al = true) : LR ad' nL al ls := by
  refine ⟨h.1, h.2.1, h.2.2.1, fun j v hv => ?_⟩
  have := List.all_eq_true.mp ho (some v) (List.mem_of_getElem? hv)
  rw [rOk_cV ha v this]
  exact h.2.2.2 j v hv
theorem cat_two {x : Option Value} {w : Value} (h1 : ∀ a, ¬ x = some (.long a)) (h2 : ∀ a, ¬ x = some (.double a)) (hx : x = some w) : ¬ w.category = 2 := by
  subst hx
  cases w with
  | long a => exact absurd rfl (h1 a)
  | double a => exact absurd rfl (h2 a)
  | _ => simp [Value.category]
theorem stO_step {K : LO → Prop} {v : Value} {x : Option Value} {r : LO} {j : Nat} (h : stO (x :: r) (j + 1) v K) : stO r j v (fun r' => K (x :: r')) ∧ (j = 0 → ∀ w, x = some w → ¬ w.category = 2) := by
  unfold stO at h
  split at h
  · exact h.elim
  · exact h.elim
  · rename_i h1 h2
    exact ⟨h, fun hj w hx => cat_two (fun a e => h1 a hj e) (fun a e => h2 a hj e) hx⟩
theorem stO_spec {v : Value} : ∀ {al : LO} {j : Nat} {K : LO → Prop}, stO al j v K → j < al.length ∧ K (al.set j (some v)) ∧ ∀ (q : Nat) (w : Value), q + 1 = j → al[q]? = some (some w) → ¬ w.category = 2 := by
  intro al
  induction al with
  | nil => intro j K h; exact h.elim
  | cons x r ih =>
    intro j K h
    cases j with
    | zero => exact ⟨Nat.succ_pos _, h, fun q w e => by omega⟩
    | succ j =>
      have key := stO_step h
      obtain ⟨h1, h2, h3⟩ := ih key.1
      refine ⟨by simpa using h1, h2, fun q w e hq => ?_⟩
      cases q with
      | zero =>
        simp at hq
        exact key.2 (by omega) w hq
      | succ q => exact h3 q w (by omega) (by simpa using hq)
theorem stT_step {K : LO → Prop} {v : Value} {x : Option Value} {r : LO} {j : Nat} (h : stT (x :: r) (j + 1) v K) : stT r j v (fun r' => K (x :: r')) ∧ (j = 0 → ∀ w, x = some w → ¬ w.category = 2) := by
  unfold stT at h
  split at h
  · exact h.elim
  · exact h.elim
  · rename_i h1 h2
    exact ⟨h, fun hj w hx => cat_two (fun a e => h1 a hj e) (fun a e => h2 a hj e) hx⟩
theorem stT_spec {v : Value} : ∀ {al : LO} {j : Nat} {K : LO → Prop}, stT al j v K → j + 1 < al.length ∧ K ((al.set j (some v)).set (j + 1) none) ∧ ∀ (q : Nat) (w : Value), q + 1 = j → al[q]? = some (some w) → ¬ w.category = 2 := by
  intro al
  induction al with
  | nil => intro j K h; exact h.elim
  | cons x r ih =>
    intro j K h
    cases j with
    | zero =>
      cases r with
      | nil => exact h.elim
      | cons y r => exact ⟨by simp, h, fun q w e => by omega⟩
    | succ j =>
      have key := stT_step h
      obtain ⟨h1, h2, h3⟩ := ih key.1
      refine ⟨by simp only [List.length_cons]; omega, h2, fun q w e hq => ?_⟩
      cases q with
      | zero =>
        simp at hq
        exact key.2 (by omega) w hq
      | succ q => exact h3 q w (by omega) (by simpa using hq)
theorem seH_spec {c : AC} : ∀ {hp : AH} {j : Nat} {K : AH → Prop}, seH hp j c K → j < hp.length ∧ K (hp.set j c) := by
  intro hp
  induction hp with
  | nil => intro j K h; exact h.elim
  | cons x r ih =>
    intro j K h
    cases j with
    | zero => exact ⟨Nat.succ_pos _, h⟩
    | succ j =>
      obtain ⟨h1, h2⟩ := ih h
      exact ⟨by simpa using h1, h2⟩
theorem seV_spec {c : Value} : ∀ {hp : List Value} {j : Nat} {K : List Value → Prop}, seV hp j c K → j < hp.length ∧ K (hp.set j c) := by
  intro hp
  induction hp with
  | nil => intro j K h; exact h.elim
  | cons x r ih =>
    intro j K h
    cases j with
    | zero => exact ⟨Nat.succ_pos _, h⟩
    | succ j =>
      obtain ⟨h1, h2⟩ := ih h
      exact ⟨by simpa using h1, h2⟩
theorem popN_spec : ∀ {n : Nat} {acc st : List Value} {K : List Value → List Value → Prop}, popN n acc st K → ∃ as r, as.length = n ∧ st = as.reverse ++ r ∧ K (as ++ acc) r := by
  intro n
  induction n with
  | zero => intro acc st K h; exact ⟨[], st, rfl, rfl, h⟩
  | succ n ih =>
    intro acc st K h
    cases st with
    | nil => exact h.elim
    | cons v st =>
      obtain ⟨as, r, h1, h2, h3⟩ := ih h
      refine ⟨as ++ [v], r, by simp [h1], by simp [h2], by simpa using h3⟩
theorem catN_sum (ad : Nat → Nat) (vs : List Value) : ((vs.map (cV ad)).map fun v => v.category).sum = catN vs := by
  induction vs with
  | nil => rfl
  | cons v r ih => simp only [List.map_cons, List.sum_cons, cV_cat, catN, ih]
/-- stores to the locals -/
theorem LR.st1 {ad : Nat → Nat} {nL i : Nat} {al : LO} {v : Value} {ls' : Array Slot} (h0 : al.length = nL) (hi : i < al.length) (hq : ∀ (q : Nat) (w : Value), q + 1 = i → al[q]? = some (some w) → ¬ w.category = 2)
    (h : lv_has ls' nL ((i, cV ad v) :: (asL ad al).filter (fun q => !(q.1 == i) && !(q.1 + 1 == i && q.2.category == 2)))) : LR ad nL (al.set i (some v)) ls' := by
  refine ⟨by simp [h0], h.1, h.2.1, fun j w hj => ?_⟩
  by_cases e : j = i
  · subst e
    rw [List.getElem?_set_self hi] at hj
    cases hj
    exact h.2.2 _ List.mem_cons_self
  · rw [List.getElem?_set_ne (fun q => e q.symm)] at hj
    refine h.2.2 (j, cV ad w) (List.mem_cons_of_mem _ (List.mem_filter.mpr ⟨asL_mem hj, ?_⟩))
    simp only [Bool.and_eq_true, Bool.not_eq_true', beq_eq_false_iff_ne, ne_eq, Bool.and_eq_false_iff]
    refine ⟨e, ?_⟩
    by_cases e2 : j + 1 = i
    · exact Or.inr (by rw [cV_cat]; exact hq j w e2 hj)
    · exact Or.inl e2
theorem LR.st2 {ad : Nat → Nat} {nL i : Nat} {al : LO} {v : Value} {ls' : Array Slot} (h0 : al.length = nL) (hi : i + 1 < al.length) (hq : ∀ (q : Nat) (w : Value), q + 1 = i → al[q]? = some (some w) → ¬ w.category = 2)
    (h : lv_has ls' nL ((i, cV ad v) :: (asL ad al).filter (fun q => !(q.1 == i) && (!(q.1 == i + 1) && !(q.1 + 1 == i && q.2.category == 2))))) : LR ad nL ((al.set i (some v)).set (i + 1) none) ls' := by
  refine ⟨by simp [h0], h.1, h.2.1, fun j w hj => ?_⟩
  by_cases e1 : j = i + 1
  · subst e1
    rw [List.getElem?_set_self (by simpa using hi)] at hj
    cases hj
  rw [List.getElem?_set_ne (fun q => e1 q.symm)] at hj
  by_cases e : j = i
  · subst e
    rw [List.getElem?_set_self (by omega)] at hj
    cases hj
    exact h.2.2 _ List.mem_cons_self
  · rw [List.getElem?_set_ne (fun q => e q.symm)] at hj
    refine h.2.2 (j, cV ad w) (List.mem_cons_of_mem _ (List.mem_filter.mpr ⟨asL_mem hj, ?_⟩))
    simp only [Bool.and_eq_true, Bool.not_eq_true', beq_eq_false_iff_ne, ne_eq, Bool.and_eq_false_iff]
    refine ⟨e, e1, ?_⟩
    by_cases e2 : j + 1 = i
    · exact Or.inr (by rw [cV_cat]; exact hq j w e2 hj)
    · exact Or.inl e2
end
section
-- 12.step
section STEP
variable {p : Program} {l : Launch} {e : Env} {R : Room} {s : State} {m : MethodId} {args : Array Value} {below : List Frame} {meth : Method} {c : Code} {H : Heap} {locs : List Loc} {cells slots : Nat} {Q : State → Prop}
/-- behind a call, whatever it says -/
theorem va_callg {pc : Nat} {ls : Array Slot} {rest st0 : List Value} {A0 A1 : Nat → Prop} {H0 : Heap} {mc ms : Nat} {free : Addr → Prop} {Qa : State → Outcome → State → Prop}
    (hr : va_Run p l e R s m args below meth c H locs cells slots mc ms (F0 m pc ls st0) rest Qa free) (hS : va_S A0 H0 H locs) (hF : ∀ st oc t, Qa st oc t → va_F A1 st t) (hA : ∀ q, A1 q → A0 q) (hf : ∀ q, free q → A0 q)
    (kk : ∀ (v : Option Value) (st₀ t : State) (H1 : Heap) (locs1 : List Loc), st₀.heap = H → t.heap = H1 → Qa st₀ (.returned v) t → va_S A0 H0 H1 locs1 → W p l e R s m args below meth c H1 locs1 (cells + mc) (slots + ms) Q (F0 m (pc + 3) ls (v.toList ++ rest))) : W p l e R s m args below meth c H locs cells slots Q (F0 m pc ls st0) := by
  intro T hT X
  obtain ⟨v, st₀, t, T', L, h0, X', hL, e1, e2, hq, st⟩ := hr T hT X
  obtain ⟨hz, hk⟩ := hF _ _ _ hq
  rw [h0] at hz hk
  obtain ⟨t2, a1, b1⟩ := kk v st₀ t T'.heap (locs ++ L) h0 e1.symm hq
    ⟨Nat.le_trans hS.1 (by rw [e1]; exact hz), fun q h1 h2 => by rw [e1, hk q (Nat.lt_of_lt_of_le h1 hS.1) (fun z => h2 (hA q z))]; exact hS.2.1 q h1 h2, fun q hq => by
      rcases List.mem_append.mp hq with h | h
      · exact hS.2.2 q h
      · exact hf _ (hL q h)⟩ T' rfl X'
  exact ⟨t2, st t2 a1, b1⟩
end STEP
theorem TBL_good {ws : List Cond} (h : ∀ w ∈ ws, w ∈ TBL) : GoodIn TBL ws := fun w hw => ⟨h w hw, good_of_word (tb_good w (h w hw))⟩
theorem NWL_nest : ∀ w ∈ NWL, isNest w = true := fun w h => (List.mem_filter.mp h).2
theorem roX.kept {a : Nat} {xs : List Int32} {U : State} {H H1 : Heap} (h : roX a xs U H) (hq : H1[a]? = H[a]?) : roX a xs U H1 := by
  obtain ⟨c, h1, h2⟩ := h
  exact ⟨c, by rw [hq]; exact h1, h2⟩
theorem roX.moved {a : Nat} {xs : List Int32} {u U : State} {H : Heap} (hvm : u.vm.Alike U.vm) (h : roX a xs u H) : roX a xs U H := by
  obtain ⟨c, h1, h2, h3⟩ := h
  exact ⟨c, h1, State.isArrayOf_alike hvm h2, h3⟩
/-- what stays, at a callee's start -/
theorem EF_call {X : List (List Int32)} {D : va_G} {tc xa : Nat → Nat} {A A' : Nat → Prop} {s U : State} {H : Heap} {locs : List Loc} (h : EF X D tc xa A s) (hS : va_S A s.heap H locs) (hU : U.heap = H) (hW : s.WarmedH U.vm) (hA : ∀ q, A' q → A q) : EF X D tc xa A' U := by
  obtain ⟨h1, h2, h3, h4, h5, h6, h7, h8⟩ := h
  refine ⟨va_K.moved hW.alike h1, fun w hw => nest_warm (NWL_nest w hw) hW (h2 w hw), ?_, fun j xs hj => ?_, ?_, fun i ix tx hi ht => vk_R.warm hW (h6 i ix tx hi ht), ?_, ?_⟩
  · rw [hU]
    exact ((h3.kept (fun a g1 g2 => hS.2.1 a g1 g2)).moved hW.alike).narrow hA
  · obtain ⟨g1, g2, g3⟩ := h4 j xs hj
    rw [hU]
    exact ⟨(g1.kept (hS.2.1 _ g2 g3)).moved hW.alike, Nat.lt_of_lt_of_le g2 hS.1, fun z => g3 (hA _ z)⟩
  · rw [hU]
    exact ((h5.kept (fun a g1 g2 => hS.2.1 a g1 g2)).moved hW.alike).narrow hA
  · rw [hU]
    exact ((h7.kept (fun a g1 g2 => hS.2.1 a g1 g2)).moved hW.alike).narrow hA
  · rw [hU]
    exact h8.imp (fun z => ((z.kept (fun a g1 g2 => hS.2.1 a g1 g2)).moved hW.alike).narrow hA) (fun z => ((z.kept (fun a g1 g2 => hS.2.1 a g1 g2)).moved hW.alike).narrow hA)
theorem EF_same {X : List (List Int32)} {D : va_G} {tc xa : Nat → Nat} {A : Nat → Prop} {u U : State} (h : EF X D tc xa A u) (hh : U.heap = u.heap) (hv : U.vm = u.vm) : EF X D tc xa A U := by
  obtain ⟨h1, h2, h3, h4, h5, h6, h7, h8⟩ := h
  have ha : u.vm.Alike U.vm := by rw [hv]; exact Vm.Alike.refl u.vm
  refine ⟨va_K.moved ha h1, fun w hw => nest_same (NWL_nest w hw) hv.symm (h2 w hw), ?_, fun j xs hj => ?_, by rw [hh]; exact h5.moved ha, fun i ix tx hi ht => vk_R.same hv (h6 i ix tx hi ht), by rw [hh]; exact h7.moved ha, by rw [hh]; exact h8.imp (fun z => z.moved ha) (fun z => z.moved ha)⟩
  · rw [hh]; exact h3.moved ha
  · obtain ⟨g1, g2, g3⟩ := h4 j xs hj
    rw [hh]
    exact ⟨g1.moved ha, g2, g3⟩
theorem CPre_blind {as : List Value} {X : List (List Int32)} {D : va_G} {tc ad : Nat → Nat} {sz : Nat} {hp : AH} : FrameBlind (va_Pc as (CPre X D tc ad sz hp)) := by
  intro a U g mk ⟨h1, h2, h3, h4, h5⟩
  exact ⟨h1, h2, h3, h4, EF_same h5 rfl rfl⟩
theorem va_D_A {A : Nat → Prop} {ws : va_W} {s : State} {H : Heap} {locs : List Loc} (hD : va_D A ws) (hS : va_S A s.heap H locs) (hA : ∀ q, s.heap.size ≤ q → A q) : ∀ q, va_A ws H.size q → A q := by
  intro q h
  rcases h with ⟨k, e, h⟩ | h
  · exact hD.2 k (q, e) h
  · exact hA q (Nat.le_trans hS.1 h)
/-- what holds of a method's activation -/
def AF (X : List (List Int32)) (g : Sig) (p : Program) (s : State) (m : MethodId) (args : Array Value) (meth : Method) (c : Code) (D : va_G) (tc xa : Nat → Nat) (A : Nat → Prop) : Prop :=
  p.tables.exec = Jvm.exec ∧ c.code = sB g ∧ c.maxLocals = sL g ∧ s.vm.findClass (sY g).cls = some m.cls ∧ (∀ w ∈ TBL, w.before args s = true) ∧ ((sY g).name = "<init>" → meth.name = "<init>") ∧ EF X D tc xa A s ∧ ∀ q, s.heap.size ≤ q → A q
def WR (D : va_G) (tc ad : Nat → Nat) (A : Nat → Prop) (s : State) (hp : AH) (H : Heap) (locs : List Loc) : Prop := va_P D vwCl (cW ad tc hp) H ∧ va_D A (cW ad tc hp) ∧ va_S A s.heap H locs
def rtD (g : Sig) (pc : Nat) (v : Option Value) : Prop := match v with
  | none => decode (sB g) pc = .ok (.return_, 1) ∧ sR g = none
  | some (.int x) => decode (sB g) pc = .ok (.ireturn, 1) ∧ ∃ t, sR g = some t ∧ narrow t (.int x) = .int x
  | some (.long _) => decode (sB g) pc = .ok (.lreturn, 1) ∧ sR g = some .long
  | _ => False
/-- a return comes to the end that is sought -/
def RZ (l : Launch) (R : Room) (g : Sig) (Q : AH → Option Value → Prop) (p : Program) (e : Env) (s : State) (m : MethodId) (args : Array Value) (below : List Frame) (meth : Method) (c : Code) (D : va_G) (tc ad0 : Nat → Nat) (n0 : Nat) (A : Nat → Prop) (Z : State → Prop) : Prop :=
  ∀ (v : Option Value) (hp : AH) (ad : Nat → Nat) (H : Heap) (locs : List Loc) (k n pc : Nat) (ls : Array Slot), Q hp v → WR D tc ad A s hp H locs → adK n0 R.cells ad0 ad → n0 ≤ hp.length → k ≤ R.cells → n ≤ R.slots → rtD g pc v → W p l e R s m args below meth c H locs k n Z (F0 m pc ls (v.toList.map (cV ad)))
/-- from here the machine comes to an end that is sought -/
def WP (l : Launch) (R : Room) (X : List (List Int32)) (g : Sig) (code : List Row) (Q : AH → Option Value → Prop) : PP := fun i al st hp k n =>
  ∀ (p : Program) (e : Env) (s : State) (m : MethodId) (args : Array Value) (below : List Frame) (meth : Method) (c : Code) (D : va_G) (tc ad ad0 : Nat → Nat) (n0 : Nat) (A : Nat → Prop) (Z : State → Prop) (H : Heap) (locs : List Loc) (ls : Array Slot),
    AF X g p s m args meth c D tc (fun j => ad0 (1000 + j)) A → RZ l R g Q p e s m args below meth c D tc ad0 n0 A Z → WR D tc ad A s hp H locs → adK n0 R.cells ad0 ad → n0 ≤ hp.length → k ≤ R.cells → n ≤ R.slots → LR ad (sL g) al ls →
      W p l e R s m args below meth c H locs k n Z (F0 m (pcO code i) ls (st.map (cV ad)))
end
section
-- 13.plain
theorem bd {a b : Prop} [Decidable a] [Decidable b] (h : (decide a && decide b) = true) : a ∧ b := by simpa using h
theorem bt {a : Prop} [Decidable a] {b : Bool} (h : (decide a && b) = true) : a ∧ b = true := by simpa using h
theorem iU_spec {f : Int32 → Int32} {st : List Value} {K : PK} (h : iU f st K) : ∃ x r, st = .int x :: r ∧ K (.int (f x) :: r) := by
  unfold iU at h; split at h
  · exact ⟨_, _, rfl, h⟩
  · exact h.elim
theorem iB_spec {f : Int32 → Int32 → Int32} {st : List Value} {K : PK} (h : iB f st K) : ∃ y x r, st = .int y :: .int x :: r ∧ K (.int (f x y) :: r) := by
  unfold iB at h; split at h
  · exact ⟨_, _, _, rfl, h⟩
  · exact h.elim
theorem iD_spec {f : Int32 → Int32 → Int32} {st : List Value} {K : PK} (h : iD f st K) : ∃ y x r, st = .int y :: .int x :: r ∧ ¬ y = 0 ∧ K (.int (f x y) :: r) := by
  unfold iD at h; split at h
  · exact ⟨_, _, _, rfl, h⟩
  · exact h.elim
theorem jB_spec {f : Int64 → Int64 → Int64} {st : List Value} {K : PK} (h : jB f st K) : ∃ y x r, st = .long y :: .long x :: r ∧ K (.long (f x y) :: r) := by
  unfold jB at h; split at h
  · exact ⟨_, _, _, rfl, h⟩
  · exact h.elim
theorem jD_spec {f : Int64 → Int64 → Int64} {st : List Value} {K : PK} (h : jD f st K) : ∃ y x r, st = .long y :: .long x :: r ∧ ¬ y = 0 ∧ K (.long (f x y) :: r) := by
  unfold jD at h; split at h
  · exact ⟨_, _, _, rfl, h⟩
  · exact h.elim
theorem jS_spec {f : Int64 → Int32 → Int64} {st : List Value} {K : PK} (h : jS f st K) : ∃ y x r, st = .int y :: .long x :: r ∧ K (.long (f x y) :: r) := by
  unfold jS at h; split at h
  · exact ⟨_, _, _, rfl, h⟩
  · exact h.elim
theorem jC_spec {st : List Value} {K : PK} (h : jC st K) : ∃ y x r, st = .long y :: .long x :: r ∧ K (.int (lg_cmp x y) :: r) := by
  unfold jC at h; split at h
  · exact ⟨_, _, _, rfl, h⟩
  · exact h.elim
theorem ijU_spec {st : List Value} {K : PK} (h : ijU st K) : ∃ x r, st = .int x :: r ∧ K (.long x.toInt64 :: r) := by
  unfold ijU at h; split at h
  · exact ⟨_, _, rfl, h⟩
  · exact h.elim
theorem jiU_spec {st : List Value} {K : PK} (h : jiU st K) : ∃ x r, st = .long x :: r ∧ K (.int x.toInt32 :: r) := by
  unfold jiU at h; split at h
  · exact ⟨_, _, rfl, h⟩
  · exact h.elim
theorem icC_spec {q : Int32 → Int32 → Prop} {st : List Value} {T F : PK} (h : icC q st T F) : ∃ y x r, st = .int y :: .int x :: r ∧ (q x y → T r) ∧ (¬ q x y → F r) := by
  unfold icC at h; split at h
  · exact ⟨_, _, _, rfl, h⟩
  · exact h.elim
theorem izC_spec {q : Int32 → Prop} {st : List Value} {T F : PK} (h : izC q st T F) : ∃ x r, st = .int x :: r ∧ (q x → T r) ∧ (¬ q x → F r) := by
  unfold izC at h; split at h
  · exact ⟨_, _, rfl, h⟩
  · exact h.elim
theorem rfN_spec {st : List Value} {K : PK} (h : rfN st K) : ∃ x r, st = .ref x :: r ∧ K r := by
  unfold rfN at h; split at h
  · exact ⟨_, _, rfl, h⟩
  · exact h.elim
theorem ldI_spec {ls : LO} {j : Nat} {K : Value → Prop} (h : ldI ls j K) : ∃ x, ls[j]? = some (some (.int x)) ∧ K (.int x) := by
  unfold ldI at h; split at h
  · rename_i x e; exact ⟨x, e, h⟩
  · exact h.elim
theorem ldL_spec {ls : LO} {j : Nat} {K : Value → Prop} (h : ldL ls j K) : ∃ x, ls[j]? = some (some (.long x)) ∧ K (.long x) := by
  unfold ldL at h; split at h
  · rename_i x e; exact ⟨x, e, h⟩
  · exact h.elim
theorem ldA_spec {ls : LO} {j : Nat} {K : Value → Prop} (h : ldA ls j K) : ∃ x, ls[j]? = some (some (.ref x)) ∧ K (.ref x) := by
  unfold ldA at h; split at h
  · rename_i x e; exact ⟨x, e, h⟩
  · exact h.elim
theorem stI_spec {ls : LO} {j : Nat} {st : List Value} {K : LO → List Value → Prop} (h : stI ls j st K) : ∃ x r, st = .int x :: r ∧ stO ls j (.int x) (fun l => K l r) := by
  unfold stI at h; split at h
  · exact ⟨_, _, rfl, h⟩
  · exact h.elim
theorem stA_spec {ls : LO} {j : Nat} {st : List Value} {K : LO → List Value → Prop} (h : stA ls j st K) : ∃ x r, st = .ref x :: r ∧ stO ls j (.ref x) (fun l => K l r) := by
  unfold stA at h; split at h
  · exact ⟨_, _, rfl, h⟩
  · exact h.elim
theorem stL_spec {ls : LO} {j : Nat} {st : List Value} {K : LO → List Value → Prop} (h : stL ls j st K) : ∃ x r, st = .long x :: r ∧ stT ls j (.long x) (fun l => K l r) := by
  unfold stL at h; split at h
  · exact ⟨_, _, rfl, h⟩
  · exact h.elim

set_option maxHeartbeats 4000000 in
set_option maxRecDepth 100000 in
theorem stp_plain {l : Launch} {R : Room} {X : List (List Int32)} {g : Sig} {code : List Row} {Q : AH → Option Value → Prop} {P : PP} (hC : Chk g code)
    {i : Nat} {al : LO} {st : List Value} {hp : AH} {k n : Nat} {ins : Instr} {pc nx a b : Nat} {cc : Int} {ts : List Nat} {cs : Sig} (hB : rowB g code (ins, pc, nx, a, b, cc, ts, cs) = true) (hT : ∀ w ∈ needT (sY g).cls (ins, pc, nx, a, b, cc, ts, cs), w ∈ TBL)
    (hrow : code[i]? = some (ins, pc, nx, a, b, cc, ts, cs)) (h : stp l R X g code Q P i al st hp k n)
    {p : Program} {e : Env} {s : State} {m : MethodId} {args : Array Value} {below : List Frame} {meth : Method} {c : Code} {D : va_G} {tc ad : Nat → Nat} {A : Nat → Prop} {Z : State → Prop} {H : Heap} {locs : List Loc} {ls : Array Slot}
    (hx : p.tables.exec = Jvm.exec) (hb : c.code = sB g) (hown : s.vm.findClass (sY g).cls = some m.cls) (hts : ∀ w ∈ TBL, w.before args s = true) (hL : LR ad (sL g) al ls)
    (go : ∀ {i' pc' : Nat} {al' : LO} {st' : List Value} {ls' : Array Slot}, pcO code i' = pc' → P i' al' st' hp k n → LR ad (sL g) al' ls' → W p l e R s m args below meth c H locs k n Z (F0 m pc' ls' (st'.map (cV ad))))
    (other : (match ins with
      | .ldc _ | .baload | .arraylength | .iaload | .iastore | .laload | .lastore | .getfield _ | .putfield _ | .getstatic _ | .new _ | .newarray _ | .invokevirtual _ | .invokestatic _ | .invokespecial _ | .ireturn | .lreturn | .return_ | .tableswitch _ _ _ _ | .lookupswitch _ _ => True
      | _ => False) → W p l e R s m args below meth c H locs k n Z (F0 m pc ls (st.map (cV ad)))) :
    W p l e R s m args below meth c H locs k n Z (F0 m pc ls (st.map (cV ad))) := by
  unfold stp at h
  rw [hrow] at h
  dsimp only at h
  have hLh := hL.has
  cases ins
  case aload_n j =>
    obtain ⟨hd, hnx⟩ := bd hB
    obtain ⟨x, hj, h⟩ := ldA_spec h
    refine lv_aload_n hx hb hd rfl (hL.2.2.2 _ _ hj) ?_
    exact go hnx h hL
  case aload j =>
    obtain ⟨hd, hnx⟩ := bd hB
    obtain ⟨x, hj, h⟩ := ldA_spec h
    refine lv_aload hx hb hd (hL.2.2.2 _ _ hj) ?_
    exact go hnx h hL
  case iload_n j =>
    obtain ⟨hd, hnx⟩ := bd hB
    obtain ⟨x, hj, h⟩ := ldI_spec h
    refine lv_iload_n hx hb hd rfl (hL.2.2.2 _ _ hj) ?_
    exact go hnx h hL
  case iload j =>
    obtain ⟨hd, hnx⟩ := bd hB
    obtain ⟨x, hj, h⟩ := ldI_spec h
    refine lv_iload hx hb hd (hL.2.2.2 _ _ hj) ?_
    exact go hnx h hL
  case lload_n j =>
    obtain ⟨hd, hnx⟩ := bd hB
    obtain ⟨x, hj, h⟩ := ldL_spec h
    refine lv_lload_n hx hb hd rfl (hL.2.2.2 _ _ hj) ?_
    exact go hnx h hL
  case lload j =>
    obtain ⟨hd, hnx⟩ := bd hB
    obtain ⟨x, hj, h⟩ := ldL_spec h
    refine lv_lload hx hb hd (hL.2.2.2 _ _ hj) ?_
    exact go hnx h hL
  case istore_n j =>
    obtain ⟨hd, hnx⟩ := bd hB
    obtain ⟨x, r, rfl, h⟩ := stI_spec h
    obtain ⟨h1, h2, h3⟩ := stO_spec h
    refine lv_istore_n hx hb hd rfl hLh (by rw [← hL.1]; exact h1) rfl (fun ls' hl' => ?_)
    exact go hnx h2 (LR.st1 hL.1 h1 h3 hl')
  case istore j =>
    obtain ⟨hd, hnx⟩ := bd hB
    obtain ⟨x, r, rfl, h⟩ := stI_spec h
    obtain ⟨h1, h2, h3⟩ := stO_spec h
    refine lv_istore hx hb hd hLh (by rw [← hL.1]; exact h1) rfl (fun ls' hl' => ?_)
    exact go hnx h2 (LR.st1 hL.1 h1 h3 hl')
  case astore_n j =>
    obtain ⟨hd, hnx⟩ := bd hB
    obtain ⟨x, r, rfl, h⟩ := stA_spec h
    obtain ⟨h1, h2, h3⟩ := stO_spec h
    refine lv_astore_n hx hb hd rfl hLh (by rw [← hL.1]; exact h1) rfl (fun ls' hl' => ?_)
    exact go hnx h2 (LR.st1 hL.1 h1 h3 hl')
  case astore j =>
    obtain ⟨hd, hnx⟩ := bd hB
    obtain ⟨x, r, rfl, h⟩ := stA_spec h
    obtain ⟨h1, h2, h3⟩ := stO_spec h
    refine lv_astore hx hb hd hLh (by rw [← hL.1]; exact h1) rfl (fun ls' hl' => ?_)
    exact go hnx h2 (LR.st1 hL.1 h1 h3 hl')
  case lstore_n j =>
    obtain ⟨hd, hnx⟩ := bd hB
    obtain ⟨x, r, rfl, h⟩ := stL_spec h
    obtain ⟨h1, h2, h3⟩ := stT_spec h
    refine lv_lstore_n hx hb hd rfl hLh (by rw [← hL.1]; exact h1) rfl (fun ls' hl' => ?_)
    exact go hnx h2 (LR.st2 hL.1 h1 h3 hl')
  case lstore j =>
    obtain ⟨hd, hnx⟩ := bd hB
    obtain ⟨x, r, rfl, h⟩ := stL_spec h
    obtain ⟨h1, h2, h3⟩ := stT_spec h
    refine lv_lstore hx hb hd hLh (by rw [← hL.1]; exact h1) rfl (fun ls' hl' => ?_)
    exact go hnx h2 (LR.st2 hL.1 h1 h3 hl')
  case iinc j z =>
    obtain ⟨hd, hz⟩ := bt hB
    obtain ⟨hz, hnx⟩ := bd hz
    obtain ⟨x, hj, h⟩ := ldI_spec h
    obtain ⟨h1, h2, h3⟩ := stO_spec h
    obtain ⟨q, hq⟩ := List.getElem?_of_mem (asL_mem (ad := ad) hj)
    refine lv_iinc (v := x + Int32.ofInt cc) hx hb hd hLh hq (by rw [hz]) (by rw [← hL.1]; exact h1) rfl (fun ls' hl' => ?_)
    exact go hnx h2 (LR.st1 (v := .int (x + Int32.ofInt cc)) hL.1 h1 h3 hl')
  case iconst z =>
    obtain ⟨hd, hz⟩ := bt hB
    obtain ⟨hz, hnx⟩ := bd hz
    refine lv_iconst hx hb hd hz ?_
    exact go hnx h hL
  case bipush z =>
    obtain ⟨hd, hz⟩ := bt hB
    obtain ⟨hz, hnx⟩ := bd hz
    refine lv_bipush hx hb hd hz ?_
    exact go hnx h hL
  case sipush z =>
    obtain ⟨hd, hz⟩ := bt hB
    obtain ⟨hz, hnx⟩ := bd hz
    refine lv_sipush hx hb hd hz ?_
    exact go hnx h hL
  case lconst z =>
    obtain ⟨hd, hz⟩ := bt hB
    obtain ⟨hz, hnx⟩ := bd hz
    refine lv_lconst hx hb hd hz ?_
    exact go hnx h hL
  case ldc_w ix =>
    obtain ⟨hd, hnx⟩ := bd hB
    refine lv_ldcw hx hb hown (hts _ (hT _ List.mem_cons_self)) hd ?_
    exact go hnx h hL
  case ldc2_w ix =>
    obtain ⟨hd, hnx⟩ := bd hB
    refine lv_ldc2 hx hb hown (hts _ (hT _ List.mem_cons_self)) hd ?_
    exact go hnx h hL
  case iadd =>
    obtain ⟨hd, hnx⟩ := bd hB
    obtain ⟨y, x, r, rfl, h⟩ := iB_spec h
    refine lv_iadd hx hb hd ?_
    exact go hnx h hL
  case isub =>
    obtain ⟨hd, hnx⟩ := bd hB
    obtain ⟨y, x, r, rfl, h⟩ := iB_spec h
    refine lv_isub hx hb hd ?_
    exact go hnx h hL
  case imul =>
    obtain ⟨hd, hnx⟩ := bd hB
    obtain ⟨y, x, r, rfl, h⟩ := iB_spec h
    refine lv_imul hx hb hd ?_
    exact go hnx h hL
  case iand =>
    obtain ⟨hd, hnx⟩ := bd hB
    obtain ⟨y, x, r, rfl, h⟩ := iB_spec h
    refine lv_iand hx hb hd ?_
    exact go hnx h hL
  case ior =>
    obtain ⟨hd, hnx⟩ := bd hB
    obtain ⟨y, x, r, rfl, h⟩ := iB_spec h
    refine lv_ior hx hb hd ?_
    exact go hnx h hL
  case ixor =>
    obtain ⟨hd, hnx⟩ := bd hB
    obtain ⟨y, x, r, rfl, h⟩ := iB_spec h
    refine lv_ixor hx hb hd ?_
    exact go hnx h hL
  case ishl =>
    obtain ⟨hd, hnx⟩ := bd hB
    obtain ⟨y, x, r, rfl, h⟩ := iB_spec h
    refine lv_ishl hx hb hd ?_
    exact go hnx h hL
  case ishr =>
    obtain ⟨hd, hnx⟩ := bd hB
    obtain ⟨y, x, r, rfl, h⟩ := iB_spec h
    refine lv_ishr hx hb hd ?_
    exact go hnx h hL
  case iushr =>
    obtain ⟨hd, hnx⟩ := bd hB
    obtain ⟨y, x, r, rfl, h⟩ := iB_spec h
    refine lv_iushr hx hb hd rfl ?_
    exact go hnx h hL
  case idiv =>
    obtain ⟨hd, hnx⟩ := bd hB
    obtain ⟨y, x, r, rfl, hne, h⟩ := iD_spec h
    refine lv_idiv hx hb hd hne ?_
    exact go hnx h hL
  case irem =>
    obtain ⟨hd, hnx⟩ := bd hB
    obtain ⟨y, x, r, rfl, hne, h⟩ := iD_spec h
    refine lv_irem hx hb hd hne ?_
    exact go hnx h hL
  case ineg =>
    obtain ⟨hd, hnx⟩ := bd hB
    obtain ⟨x, r, rfl, h⟩ := iU_spec h
    refine lv_ineg hx hb hd ?_
    exact go hnx h hL
  case i2c =>
    obtain ⟨hd, hnx⟩ := bd hB
    obtain ⟨x, r, rfl, h⟩ := iU_spec h
    refine lv_i2c hx hb hd rfl ?_
    exact go hnx h hL
  case i2b =>
    obtain ⟨hd, hnx⟩ := bd hB
    obtain ⟨x, r, rfl, h⟩ := iU_spec h
    refine lv_i2b hx hb hd rfl ?_
    exact go hnx h hL
  case i2s =>
    obtain ⟨hd, hnx⟩ := bd hB
    obtain ⟨x, r, rfl, h⟩ := iU_spec h
    refine lv_i2s hx hb hd rfl ?_
    exact go hnx h hL
  case i2l =>
    obtain ⟨hd, hnx⟩ := bd hB
    obtain ⟨x, r, rfl, h⟩ := ijU_spec h
    refine lv_i2l hx hb hd rfl ?_
    exact go hnx h hL
  case l2i =>
    obtain ⟨hd, hnx⟩ := bd hB
    obtain ⟨x, r, rfl, h⟩ := jiU_spec h
    refine lv_l2i hx hb hd rfl ?_
    exact go hnx h hL
  case ladd =>
    obtain ⟨hd, hnx⟩ := bd hB
    obtain ⟨y, x, r, rfl, h⟩ := jB_spec h
    refine lv_ladd hx hb hd ?_
    exact go hnx h hL
  case lmul =>
    obtain ⟨hd, hnx⟩ := bd hB
    obtain ⟨y, x, r, rfl, h⟩ := jB_spec h
    refine lv_lmul hx hb hd ?_
    exact go hnx h hL
  case land =>
    obtain ⟨hd, hnx⟩ := bd hB
    obtain ⟨y, x, r, rfl, h⟩ := jB_spec h
    refine lv_land hx hb hd ?_
    exact go hnx h hL
  case lor =>
    obtain ⟨hd, hnx⟩ := bd hB
    obtain ⟨y, x, r, rfl, h⟩ := jB_spec h
    refine lv_lor hx hb hd ?_
    exact go hnx h hL
  case lxor =>
    obtain ⟨hd, hnx⟩ := bd hB
    obtain ⟨y, x, r, rfl, h⟩ := jB_spec h
    refine lv_lxor hx hb hd ?_
    exact go hnx h hL
  case ldiv =>
    obtain ⟨hd, hnx⟩ := bd hB
    obtain ⟨y, x, r, rfl, hne, h⟩ := jD_spec h
    refine lv_ldiv hx hb hd hne ?_
    exact go hnx h hL
  case lrem =>
    obtain ⟨hd, hnx⟩ := bd hB
    obtain ⟨y, x, r, rfl, hne, h⟩ := jD_spec h
    refine lv_lrem hx hb hd hne ?_
    exact go hnx h hL
  case lshl =>
    obtain ⟨hd, hnx⟩ := bd hB
    obtain ⟨y, x, r, rfl, h⟩ := jS_spec h
    refine lv_lshl hx hb hd rfl ?_
    exact go hnx h hL
  case lshr =>
    obtain ⟨hd, hnx⟩ := bd hB
    obtain ⟨y, x, r, rfl, h⟩ := jS_spec h
    refine lv_lshr hx hb hd rfl ?_
    exact go hnx h hL
  case lcmp =>
    obtain ⟨hd, hnx⟩ := bd hB
    obtain ⟨y, x, r, rfl, h⟩ := jC_spec h
    refine W.lcmp hx hb hd ?_
    exact go hnx h hL
  case dup =>
    obtain ⟨hd, hnx⟩ := bd hB
    cases st with
    | nil => exact h.elim
    | cons v r =>
      refine lv_dup hx hb hd (by rw [cV_cat]; exact h.1) ?_
      exact go hnx h.2 hL
  case pop =>
    obtain ⟨hd, hnx⟩ := bd hB
    cases st with
    | nil => exact h.elim
    | cons v r =>
      refine lv_pop hx hb hd (by rw [cV_cat]; exact h.1) ?_
      exact go hnx h.2 hL
  case pop2 =>
    obtain ⟨hd, hnx⟩ := bd hB
    cases st with
    | nil => exact h.elim
    | cons v r =>
      refine lv_pop2_2 hx hb hd (by rw [cV_cat]; exact h.1) ?_
      exact go hnx h.2 hL
  case goto o =>
    obtain ⟨hd, ht⟩ := bd hB
    refine lv_goto hx hb hd ht ?_
    exact go rfl h hL
  case ifnull o =>
    obtain ⟨hd, ht⟩ := bt hB
    obtain ⟨ht, hnx⟩ := bd ht
    obtain ⟨x, r, rfl, h⟩ := rfN_spec h
    refine lv_ifnull hx hb hd ?_
    exact go hnx h hL
  case ifnonnull o =>
    obtain ⟨hd, ht⟩ := bt hB
    obtain ⟨ht, hnx⟩ := bd ht
    obtain ⟨x, r, rfl, h⟩ := rfN_spec h
    refine lv_ifnonnull hx hb hd ht ?_
    exact go rfl h hL
  case ifCond q o =>
    obtain ⟨hd, ht0⟩ := bt hB
    obtain ⟨ht, hnx⟩ := bd ht0
    cases q
    case eq =>
      obtain ⟨x, r, rfl, h1, h2⟩ := izC_spec h
      exact lv_if_eq hx hb hd ht (fun z => go rfl (h1 z) hL) (fun z => go hnx (h2 z) hL)
    case ne =>
      obtain ⟨x, r, rfl, h1, h2⟩ := izC_spec h
      exact lv_if_ne hx hb hd ht (fun z => go rfl (h2 z) hL) (fun z => go hnx (h1 z) hL)
    case lt =>
      obtain ⟨x, r, rfl, h1, h2⟩ := izC_spec h
      exact lv_if_lt hx hb hd ht (fun z => go rfl (h1 z) hL) (fun z => go hnx (h2 z) hL)
    case ge =>
      obtain ⟨x, r, rfl, h1, h2⟩ := izC_spec h
      exact lv_if_ge hx hb hd ht (fun z => go rfl (h1 z) hL) (fun z => go hnx (h2 z) hL)
    case gt =>
      obtain ⟨x, r, rfl, h1, h2⟩ := izC_spec h
      exact lv_if_gt hx hb hd ht (fun z => go rfl (h1 z) hL) (fun z => go hnx (h2 z) hL)
    case le =>
      obtain ⟨x, r, rfl, h1, h2⟩ := izC_spec h
      exact lv_if_le hx hb hd ht (fun z => go rfl (h1 z) hL) (fun z => go hnx (h2 z) hL)
  case if_icmp q o =>
    obtain ⟨hd, ht0⟩ := bt hB
    obtain ⟨ht, hnx⟩ := bd ht0
    cases q
    case eq =>
      obtain ⟨y, x, r, rfl, h1, h2⟩ := icC_spec h
      exact lv_icmp_eq hx hb hd ht (fun z => go rfl (h1 z) hL) (fun z => go hnx (h2 z) hL)
    case ne =>
      obtain ⟨y, x, r, rfl, h1, h2⟩ := icC_spec h
      exact lv_icmp_ne hx hb hd ht (fun z => go rfl (h2 z) hL) (fun z => go hnx (h1 z) hL)
    case lt =>
      obtain ⟨y, x, r, rfl, h1, h2⟩ := icC_spec h
      exact lv_icmp_lt hx hb hd ht (fun z => go rfl (h1 z) hL) (fun z => go hnx (h2 z) hL)
    case ge =>
      obtain ⟨y, x, r, rfl, h1, h2⟩ := icC_spec h
      exact lv_icmp_ge hx hb hd ht (fun z => go rfl (h1 z) hL) (fun z => go hnx (h2 z) hL)
    case gt =>
      obtain ⟨y, x, r, rfl, h1, h2⟩ := icC_spec h
      exact lv_icmp_gt hx hb hd ht (fun z => go rfl (h1 z) hL) (fun z => go hnx (h2 z) hL)
    case le =>
      obtain ⟨y, x, r, rfl, h1, h2⟩ := icC_spec h
      exact lv_icmp_le hx hb hd ht (fun z => go rfl (h1 z) hL) (fun z => go hnx (h2 z) hL)
  all_goals first | exact h.elim | exact other trivial
end
section
-- 14.step2
theorem iw_X0 : ∀ w ∈ wsX00, w ∈ TBL := fun w h => List.mem_filter.mpr ⟨(by decide +kernel : ∀ w ∈ wsX00, w ∈ lw_tbl) w h, (by decide +kernel : ∀ w ∈ wsX00, goodWord w = true) w h⟩
theorem iw_X1 : ∀ w ∈ wsX10, w ∈ TBL := fun w h => List.mem_filter.mpr ⟨(by decide +kernel : ∀ w ∈ wsX10, w ∈ lw_tbl) w h, (by decide +kernel : ∀ w ∈ wsX10, goodWord w = true) w h⟩
theorem iw_X2 : ∀ w ∈ wsX20, w ∈ TBL := fun w h => List.mem_filter.mpr ⟨(by decide +kernel : ∀ w ∈ wsX20, w ∈ lw_tbl) w h, (by decide +kernel : ∀ w ∈ wsX20, goodWord w = true) w h⟩
theorem iw_X3 : ∀ w ∈ wsX30, w ∈ TBL := fun w h => List.mem_filter.mpr ⟨(by decide +kernel : ∀ w ∈ wsX30, w ∈ lw_tbl) w h, (by decide +kernel : ∀ w ∈ wsX30, goodWord w = true) w h⟩
theorem iw_X4 : ∀ w ∈ wsX40, w ∈ TBL := fun w h => List.mem_filter.mpr ⟨(by decide +kernel : ∀ w ∈ wsX40, w ∈ lw_tbl) w h, (by decide +kernel : ∀ w ∈ wsX40, goodWord w = true) w h⟩
theorem iw_X5 : ∀ w ∈ wsX50, w ∈ TBL := fun w h => List.mem_filter.mpr ⟨(by decide +kernel : ∀ w ∈ wsX50, w ∈ lw_tbl) w h, (by decide +kernel : ∀ w ∈ wsX50, goodWord w = true) w h⟩
theorem iw_X6 : ∀ w ∈ wsX60, w ∈ TBL := fun w h => List.mem_filter.mpr ⟨(by decide +kernel : ∀ w ∈ wsX60, w ∈ lw_tbl) w h, (by decide +kernel : ∀ w ∈ wsX60, goodWord w = true) w h⟩
theorem iw_X7 : ∀ w ∈ wsX70, w ∈ TBL := fun w h => List.mem_filter.mpr ⟨(by decide +kernel : ∀ w ∈ wsX70, w ∈ lw_tbl) w h, (by decide +kernel : ∀ w ∈ wsX70, goodWord w = true) w h⟩
theorem iw_X8 : ∀ w ∈ wsX80, w ∈ TBL := fun w h => List.mem_filter.mpr ⟨(by decide +kernel : ∀ w ∈ wsX80, w ∈ lw_tbl) w h, (by decide +kernel : ∀ w ∈ wsX80, goodWord w = true) w h⟩
theorem cd_all : ∀ a, a < 9 → ∀ b, b < clS a → (clF a b).1 = clN a := by decide +kernel
/-- what holds of a class and its place -/
def clAll (a : Nat) : Prop := (∀ w ∈ u_ws (clN a) (clF a) (clS a), w ∈ TBL) ∧ (∀ k, k < clS a → parseFieldDescriptor (clF a k).2.2.1 = some ((clTy.getD a tyX0) k)) ∧ (∀ x, x < clS a → ∀ y, y < clS a → x ≠ y → (clF a x).2.1 ≠ (clF a y).2.1) ∧ ∀ b, b < clS a → (clF a b).1 = clN a
theorem cl_all {a b : Nat} (h : clOk a b = true) : vwCl[a]? = some (clN a, clF a, clS a) ∧ b < clS a ∧ clAll a := by
  have ha : a < 9 := by
    unfold clOk at h
    cases hq : vwCl[a]? with
    | none => rw [hq] at h; cases h
    | some q => exact (List.getElem?_eq_some_iff.mp hq).1
  have hd := cd_all a ha
  match a, ha with
  | 0, _ => exact ⟨rfl, Nat.blt_eq.mp h, iw_X0, tyX0_ok, nmX0, hd⟩
  | 1, _ => exact ⟨rfl, Nat.blt_eq.mp h, iw_X1, tyX1_ok, nmX1, hd⟩
  | 2, _ => exact ⟨rfl, Nat.blt_eq.mp h, iw_X2, tyX2_ok, nmX2, hd⟩
  | 3, _ => exact ⟨rfl, Nat.blt_eq.mp h, iw_X3, tyX3_ok, nmX3, hd⟩
  | 4, _ => exact ⟨rfl, Nat.blt_eq.mp h, iw_X4, tyX4_ok, nmX4, hd⟩
  | 5, _ => exact ⟨rfl, Nat.blt_eq.mp h, iw_X5, tyX5_ok, nmX5, hd⟩
  | 6, _ => exact ⟨rfl, Nat.blt_eq.mp h, iw_X6, tyX6_ok, nmX6, hd⟩
  | 7, _ => exact ⟨rfl, Nat.blt_eq.mp h, iw_X7, tyX7_ok, nmX7, hd⟩
  | 8, _ => exact ⟨rfl, Nat.blt_eq.mp h, iw_X8, tyX8_ok, nmX8, hd⟩
theorem cE_seI {ad tc : Nat → Nat} {xs : List Int32} {j : Nat} {x : Int32} (h : j < xs.length) : (Sum.inl (tc 0, xs.length, Sum.inl (upd (fun q => xs.getD q 0) j x)) : va_E) = cE ad tc (AI (xs.set j x)) := by
  have e : upd (fun q => xs.getD q 0) j x = fun q => (xs.set j x).getD q 0 := by
    funext q
    unfold upd
    by_cases hq : q = j
    · subst hq
      simp [h]
    · rw [if_neg hq]
      simp [List.getD_eq_getElem?_getD, List.getElem?_set_ne (fun z => hq z.symm)]
  rw [e]
  simp [cE]
theorem putOk_spec {ty : FieldType} {v : Value} (ad : Nat → Nat) (h : putOk ty v) : narrow ty (cV ad v) = cV ad v ∧ fits ty (cV ad v) = true := by
  unfold putOk at h
  split at h
  · exact ⟨rfl, rfl⟩
  · rcases h with rfl | rfl <;> exact ⟨rfl, rfl⟩
  · exact ⟨rfl, rfl⟩
  · exact ⟨rfl, rfl⟩
  · exact h.elim
theorem cV_dfl (ad : Nat → Nat) (a N : Nat) : (dfl a N).map (cV ad) = dfl a N := by
  unfold dfl
  rw [List.map_map]
  apply List.map_congr_left
  intro j _
  show cV ad (defaultValue _) = defaultValue _
  cases (clTy.getD a tyX0) j <;> rfl
theorem cW_push {ad tc : Nat → Nat} {hp : AH} {q : Nat} {x : AC} {z : va_E} (h : rOkH hp.length hp = true) (hz : cE (fun k => if k = hp.length then q else ad k) tc x = z) (hn : hp.length < 1000) : cW (fun k => if k = hp.length then q else ad k) tc (hp ++ [x]) = cW ad tc hp ++ [(q, z)] := by
  have e := rOkH_cW (ad := ad) (ad' := fun k => if k = hp.length then q else ad k) (tc := tc) (n := hp.length) (fun k hk => if_neg (by rcases hk with hk | hk <;> omega)) rfl h
  have : cW (fun k => if k = hp.length then q else ad k) tc (hp ++ [x]) = cW (fun k => if k = hp.length then q else ad k) tc hp ++ [((fun k => if k = hp.length then q else ad k) hp.length, cE (fun k => if k = hp.length then q else ad k) tc x)] := by
    unfold cW
    rw [List.mapIdx_append]
    simp
  rw [this, e, hz]
  simp
theorem cE_seL {ad tc : Nat → Nat} {xs : List Int64} {j : Nat} {x : Int64} (h : j < xs.length) : (Sum.inl (tc 1, xs.length, Sum.inr (Sum.inl (vp_updL (fun q => xs.getD q 0) j x))) : va_E) = cE ad tc (AL (xs.set j x)) := by
  have e : vp_updL (fun q => xs.getD q 0) j x = fun q => (xs.set j x).getD q 0 := by
    funext q
    unfold vp_updL
    by_cases hq : q = j
    · subst hq
      simp [h]
    · rw [if_neg hq]
      simp [List.getD_eq_getElem?_getD, List.getElem?_set_ne (fun z => hq z.symm)]
  rw [e]
  simp [cE]
theorem rep_cellI (cA : ClassId) (N : Nat) : vp_cell cA ((List.replicate N (0 : Int32)).length, Sum.inl (fun j => (List.replicate N (0 : Int32)).getD j 0)) = arrV cA N (fun _ => defaultValue .int) := by
  have e : (fun j => (List.replicate N (0 : Int32)).getD j 0) = fun _ => 0 := by
    funext j
    by_cases h : j < N <;> simp [List.getD_eq_getElem?_getD, List.getElem?_replicate, h]
  rw [e]
  simp [vp_cell, defaultValue]
theorem rep_cellL (cA : ClassId) (N : Nat) : vp_cell cA ((List.replicate N (0 : Int64)).length, Sum.inr (Sum.inl (fun j => (List.replicate N (0 : Int64)).getD j 0))) = arrV cA N (fun _ => defaultValue .long) := by
  have e : (fun j => (List.replicate N (0 : Int64)).getD j 0) = fun _ => 0 := by
    funext j
    by_cases h : j < N <;> simp [List.getD_eq_getElem?_getD, List.getElem?_replicate, h]
  rw [e]
  simp [vp_cell, defaultValue]
theorem swT_spec {x : Int32} {K : Nat → Prop} : ∀ {ts : List Nat} {lo : Int} {j t : Nat}, swT x lo ts K → ts[j]? = some t → x = Int32.ofInt (lo + (j : Int)) → K t := by
  intro ts
  induction ts with
  | nil => intro lo j t h hj; simp at hj
  | cons a r ih =>
    intro lo j t h hj hx
    cases j with
    | zero =>
      simp at hj
      subst hj
      exact h.1 (by rw [hx]; simp)
    | succ j => exact ih h.2 (by simpa using hj) (by rw [hx]; congr 1; omega)
theorem swL_spec {x : Int32} {K : Nat → Prop} {pc : Nat} {code : List Row} {d : Int} {a : Nat} (hd : (pc : Int) + d = (pcO code a : Int)) : ∀ {ps : List (Int × Int)} {ts : List Nat}, ps.map (fun o => (pc : Int) + o.2) = ts.map (fun t => (pcO code t : Int)) → (∀ o ∈ ps, (Int32.ofInt o.1).toInt = o.1) → swL x ps ts K → ((∀ o ∈ ps, ¬ x = Int32.ofInt o.1) → K a) → ∃ (off : Int) (t : Nat), Op.lookupswitch.offset ps d x.toInt = off ∧ (pc : Int) + off = (pcO code t : Int) ∧ K t := by
  intro ps
  induction ps with
  | nil => intro ts h1 h2 h3 h4; exact ⟨d, a, rfl, hd, h4 (fun _ z => by cases z)⟩
  | cons o r ih =>
    intro ts h1 h2 h3 h4
    cases ts with
    | nil => simp at h1
    | cons t ts =>
      simp only [List.map_cons, List.cons.injEq] at h1
      obtain ⟨a0, o0⟩ := o
      rw [Op.lookupswitch.offset_cons]
      by_cases hx : a0 = x.toInt
      · exact ⟨o0, t, if_pos hx, h1.1, h3.1 (by rw [hx]; simp)⟩
      · rw [if_neg hx]
        refine ih h1.2 (fun o ho => h2 o (List.mem_cons_of_mem _ ho)) h3.2 (fun hn => h4 (fun o ho => ?_))
        rcases List.mem_cons.mp ho with rfl | ho
        · intro z
          apply hx
          rw [z]
          exact (h2 _ List.mem_cons_self).symm
        · exact hn o ho
theorem rowI_spec {X : List (List Int32)} {hp : AH} {q : Nat} {xs : List Int32} (h : rowI X hp q = some xs) : (1000 ≤ q ∧ X[q - 1000]? = some xs) ∨ hp[q]? = some (AI xs) := by
  unfold rowI at h
  split at h
  · rename_i hq
    split at h
    · cases h
    · exact Or.inl ⟨Nat.le_of_ble_eq_true hq, h⟩
  · split at h
    · rename_i ys hy
      cases h
      exact Or.inr hy
    · cases h
end
section
-- 15.calls
theorem sg_good {g : Sig} (h : Cond.code (sY g) (sB g) (sL g) (sR g) ∈ TBL) : GoodIn TBL (sgW g) := TBL_good (fun w hw => (List.mem_cons.mp hw).elim (fun e => by rw [e]; exact h) id)
theorem adK.trans {n0 n1 M mc : Nat} {ad0 ad ad' : Nat → Nat} (h : adK n0 M ad0 ad) (h' : adK n1 mc ad ad') (hn : n0 ≤ n1) (hm : mc ≤ M) : adK n0 M ad0 ad' :=
  ⟨fun k hk => (h'.1 k (hk.imp (fun q => by omega) id)).trans (h.1 k hk), fun hM => (h'.2 (by omega)).trans (h.2 hM)⟩
section CALLS
variable {p : Program} {l : Launch} {e : Env} {R : Room} {s : State} {m : MethodId} {args : Array Value} {below : List Frame} {meth : Method} {c : Code} {H : Heap} {locs : List Loc} {k n : Nat} {Z : State → Prop}
variable {X : List (List Int32)} {g cs : Sig} {D : va_G} {tc ad ad0 : Nat → Nat} {A : Nat → Prop} {hp : AH} {ls : Array Slot} {pc : Nat} {as r st0 : List Value} {Rq : AH → Option Value → Prop} {d' ix : Nat}
theorem call_end {a0 : Array Value} (hrun : va_Run p l e R s m args below meth c H locs k n (sC cs) (sS cs) (F0 m pc ls st0) (r.map (cV ad)) (CPost (sC cs) D tc ad H.size hp Rq a0) (va_A (cW ad tc hp) H.size))
    (hW : WR D tc ad A s hp H locs) (hA : ∀ q, s.heap.size ≤ q → A q)
    (kk : ∀ (v : Option Value) (hp' : AH) (ad' : Nat → Nat) (H' : Heap) (locs' : List Loc), Rq hp' v → adK hp.length (sC cs) ad ad' → hp.length ≤ hp'.length → WR D tc ad' A s hp' H' locs' → W p l e R s m args below meth c H' locs' (k + sC cs) (n + sS cs) Z (F0 m (pc + 3) ls (v.toList.map (cV ad') ++ r.map (cV ad)))) :
    W p l e R s m args below meth c H locs k n Z (F0 m pc ls st0) := by
  obtain ⟨hP, hD, hS⟩ := hW
  have hAA := va_D_A hD hS hA
  refine va_callg hrun hS (fun st oc t h => h.2) hAA hAA (fun v st₀ t H1 locs1 h0 h1 hq hS1 => ?_)
  obtain ⟨⟨w, hp', ad', ho, hR, hak, hln, hP', hD'⟩, -⟩ := hq
  cases ho
  have := kk w hp' ad' H1 locs1 hR hak hln ⟨by rw [← h1]; exact hP', hD'.weaken (fun _ _ _ h => hAA _ h), hS1⟩
  cases w <;> exact this
theorem call_pre (hW : WR D tc ad A s hp H locs) (hA : ∀ q, s.heap.size ≤ q → A q) (hEF : EF X D tc (fun j => ad (1000 + j)) A s) : PreS s H (va_Pc (as.map (cV ad)) (CPre X D tc ad H.size hp)) (as.map (cV ad)) :=
  ⟨CPre_blind, fun U hU hw => ⟨rfl, by rw [hU], by rw [hU]; exact hW.1, hW.2.1.weaken (fun _ _ _ _ => trivial), EF_call hEF hW.2.2 hU hw (va_D_A hW.2.1 hW.2.2 hA)⟩⟩
theorem call_room (hc : catN r ≤ 8) : 2 * (F0 m pc ls st0).monitorRoom + ((r.map (cV ad)).map fun v => v.category).sum ≤ 8 := lv_room (pc := pc) (m := m) (ls := ls) (rest := st0) (by rw [catN_sum]; exact hc)
/-- a static method -/
theorem call_st (hC : Ctr l d' X cs as hp Rq) (S : CallFix p m c (sB g) (sL g) s args TBL (sY g).cls) (hW : WR D tc ad A s hp H locs) (hA : ∀ q, s.heap.size ≤ q → A q) (hEF : EF X D tc (fun j => ad (1000 + j)) A s) (hLs : ls.size = sL g)
    (hd : decode (sB g) pc = .ok (.invokestatic ix, 3)) (hc : catN r ≤ 8) (hn : as.length = sA cs) (hsg : sgOk cs (sA cs) = true) (hT : ∀ w ∈ [Cond.static (sY cs), .initialized (sY cs).cls, .code (sY cs) (sB cs) (sL cs) (sR cs)], w ∈ TBL) {own : String} (hown : own = (sY g).cls) {z : Int}
    (hT0 : z = 0 → Cond.methodLink own ix (sY cs) ∈ TBL) (hN : z = 1 → Cond.methodLinkNest own ix (sY cs) "SaidTwice" ∈ NWL) (hz : z = 0 ∨ z = 1)
    (hR : d' + 1 ≤ R.frames ∧ 8 + (sL cs + 11) + 64 * d' ≤ R.locals ∧ k + sC cs ≤ R.cells ∧ n + sS cs ≤ R.slots)
    (kk : ∀ (v : Option Value) (hp' : AH) (ad' : Nat → Nat) (H' : Heap) (locs' : List Loc), Rq hp' v → adK hp.length (sC cs) ad ad' → hp.length ≤ hp'.length → WR D tc ad' A s hp' H' locs' → W p l e R s m args below meth c H' locs' (k + sC cs) (n + sS cs) Z (F0 m (pc + 3) ls (v.toList.map (cV ad') ++ r.map (cV ad)))) :
    W p l e R s m args below meth c H locs k n Z (F0 m pc ls ((as.reverse ++ r).map (cV ad))) := by
  subst hown
  have hts := S.2.2.2.2
  simp only [sgOk, Bool.and_eq_true, decide_eq_true_eq] at hsg
  have hcode : Cond.code (sY cs) (sB cs) (sL cs) (sR cs) ∈ TBL := hT _ (by simp)
  have hG : GoodIn TBL (sgW cs) := sg_good hcode
  have hini := hts (.initialized (sY cs).cls) (hT _ (by simp))
  have hst := hts (.static (sY cs)) (hT _ (by simp))
  have hstack : (as.reverse ++ r).map (cV ad) = (as.map (cV ad)).reverse ++ r.map (cV ad) := by simp
  have hCS := hC D tc ad H.size
  refine call_end (a0 := (as.map (cV ad)).toArray) ?_ hW hA kk
  rcases hz with rfl | rfl
  · have hlink := hts (.methodLink (sY g).cls ix (sY cs)) (hT0 rfl)
    exact va_runS S hCS ⟨callB_of (sA cs) hts hG rfl rfl rfl hini hlink ⟨hsg.1.1, hsg.1.2, hsg.2⟩ ⟨hR.1, hR.2.1⟩, hst⟩ (call_pre hW hA hEF) rfl (by simp [hn]) hLs hstack (call_room hc) hd ⟨hR.2.2.1, hR.2.2.2⟩
  · have hlink := S
    exact va_runSN S hCS ⟨va_cnB (sA cs) hts hG rfl rfl rfl (hEF.2.1 _ (hN rfl)) hini ⟨hsg.1.1, hsg.1.2, hsg.2⟩ ⟨hR.1, hR.2.1⟩, hst, trivial⟩ (call_pre hW hA hEF) rfl (by simp [hn]) hLs hstack (call_room hc) hd ⟨hR.2.2.1, hR.2.2.2⟩
/-- a method of an object -/
theorem call_vi (hC : Ctr l d' X cs as hp Rq) (S : CallFix p m c (sB g) (sL g) s args TBL (sY g).cls) (hW : WR D tc ad A s hp H locs) (hA : ∀ q, s.heap.size ≤ q → A q) (hEF : EF X D tc (fun j => ad (1000 + j)) A s) (hLs : ls.size = sL g)
    (hd : decode (sB g) pc = .ok (.invokevirtual ix, 3)) (hc : catN r ≤ 8) (hn : as.length = sA cs) {q a : Nat} {as' : List Value} (has : as = .ref q :: as') (hsg : sgOk cs (sA cs - 1) = true) {fs : List Value} (hq : hp[q]? = some (AO a fs)) (hcl : clOk a 0 = true) (hcn : (sY cs).cls = clN a) (hT : ∀ w ∈ [Cond.instanceMethod (sY cs), .selects (clN a) (sY cs) (sY cs), .initialized (sY cs).cls, .code (sY cs) (sB cs) (sL cs) (sR cs)], w ∈ TBL) {own : String} (hown : own = (sY g).cls) {z : Int}
    (hT0 : z = 0 → Cond.methodLink own ix (sY cs) ∈ TBL) (hN : z = 1 → Cond.methodLinkNest own ix (sY cs) "SaidTwice" ∈ NWL) (hz : z = 0 ∨ z = 1)
    (hR : d' + 1 ≤ R.frames ∧ 8 + (sL cs + 11) + 64 * d' ≤ R.locals ∧ k + sC cs ≤ R.cells ∧ n + sS cs ≤ R.slots)
    (kk : ∀ (v : Option Value) (hp' : AH) (ad' : Nat → Nat) (H' : Heap) (locs' : List Loc), Rq hp' v → adK hp.length (sC cs) ad ad' → hp.length ≤ hp'.length → WR D tc ad' A s hp' H' locs' → W p l e R s m args below meth c H' locs' (k + sC cs) (n + sS cs) Z (F0 m (pc + 3) ls (v.toList.map (cV ad') ++ r.map (cV ad)))) :
    W p l e R s m args below meth c H locs k n Z (F0 m pc ls ((as.reverse ++ r).map (cV ad))) := by
  subst hown
  subst has
  have hts := S.2.2.2.2
  simp only [sgOk, Bool.and_eq_true, decide_eq_true_eq] at hsg
  have hcode : Cond.code (sY cs) (sB cs) (sL cs) (sR cs) ∈ TBL := hT _ (by simp)
  have hG : GoodIn TBL (sgW cs) := sg_good hcode
  have hini := hts (.initialized (sY cs).cls) (hT _ (by simp))
  have hin := hts (.instanceMethod (sY cs)) (hT _ (by simp))
  have hse : (Cond.selects (sY cs).cls (sY cs) (sY cs)).before args s = true := by rw [hcn]; exact hts (.selects (clN a) (sY cs) (sY cs)) (hT _ (by simp))
  have hstack : ((Value.ref q :: as').reverse ++ r).map (cV ad) = (as'.map (cV ad)).reverse ++ .ref (ad q) :: r.map (cV ad) := by simp [cV]
  have hCS := hC D tc ad H.size
  obtain ⟨hcl1, -, -⟩ := cl_all hcl
  have hrecv := va_recv hEF.1 hW.1 hcl1 (cW_get (ad := ad) (tc := tc) hq)
  have hpre := call_pre (as := .ref q :: as') hW hA hEF
  have hp' : PreV s H (sY cs).cls (ad q) (va_Pc ((Value.ref q :: as').map (cV ad)) (CPre X D tc ad H.size hp)) (as'.map (cV ad)) := ⟨hpre.1, by rw [hcn]; exact hrecv, hpre.2⟩
  have hn' : as'.length = sA cs - 1 := by simp at hn; omega
  refine call_end (a0 := ((Value.ref q :: as').map (cV ad)).toArray) ?_ hW hA kk
  rcases hz with rfl | rfl
  · have hlink := hts (.methodLink (sY g).cls ix (sY cs)) (hT0 rfl)
    exact va_runV S hCS ⟨callB_of (sA cs - 1) hts hG rfl rfl rfl hini hlink ⟨hsg.1.1, hsg.1.2, hsg.2⟩ ⟨hR.1, hR.2.1⟩, hin, hse⟩ hp' rfl (by simp [hn']) hLs hstack (call_room hc) hd ⟨hR.2.2.1, hR.2.2.2⟩
  · exact va_runVN S hCS ⟨va_cnB (sA cs - 1) hts hG rfl rfl rfl (hEF.2.1 _ (hN rfl)) hini ⟨hsg.1.1, hsg.1.2, hsg.2⟩ ⟨hR.1, hR.2.1⟩, hin, hse⟩ hp' rfl (by simp [hn']) hLs hstack (call_room hc) hd ⟨hR.2.2.1, hR.2.2.2⟩
/-- a method of a String constant -/
theorem call_vs (hC : Ctr l d' X cs as hp Rq) (S : CallFix p m c (sB g) (sL g) s args TBL (sY g).cls) (hW : WR D tc ad A s hp H locs) (hA : ∀ q, s.heap.size ≤ q → A q) (hEF : EF X D tc (fun j => ad (1000 + j)) A s) (hLs : ls.size = sL g)
    (hd : decode (sB g) pc = .ok (.invokevirtual ix, 3)) (hc : catN r ≤ 8) (hn : as.length = sA cs) {q i : Nat} {as' : List Value} (has : as = .ref q :: as') (hsg : sgOk cs (sA cs - 1) = true) (hq : strQ q = some i) (hcn : (sY cs).cls = "java/lang/String") (hT : ∀ w ∈ [Cond.instanceMethod (sY cs), .selects "java/lang/String" (sY cs) (sY cs), .initialized (sY cs).cls, .code (sY cs) (sB cs) (sL cs) (sR cs)], w ∈ TBL) {own : String} (hown : own = (sY g).cls) {z : Int}
    (hT0 : z = 0 → Cond.methodLink own ix (sY cs) ∈ TBL) (hN : z = 1 → Cond.methodLinkNest own ix (sY cs) "SaidTwice" ∈ NWL) (hz : z = 0 ∨ z = 1)
    (hR : d' + 1 ≤ R.frames ∧ 8 + (sL cs + 11) + 64 * d' ≤ R.locals ∧ k + sC cs ≤ R.cells ∧ n + sS cs ≤ R.slots)
    (kk : ∀ (v : Option Value) (hp' : AH) (ad' : Nat → Nat) (H' : Heap) (locs' : List Loc), Rq hp' v → adK hp.length (sC cs) ad ad' → hp.length ≤ hp'.length → WR D tc ad' A s hp' H' locs' → W p l e R s m args below meth c H' locs' (k + sC cs) (n + sS cs) Z (F0 m (pc + 3) ls (v.toList.map (cV ad') ++ r.map (cV ad)))) :
    W p l e R s m args below meth c H locs k n Z (F0 m pc ls ((as.reverse ++ r).map (cV ad))) := by
  subst hown
  subst has
  have hts := S.2.2.2.2
  simp only [sgOk, Bool.and_eq_true, decide_eq_true_eq] at hsg
  have hcode : Cond.code (sY cs) (sB cs) (sL cs) (sR cs) ∈ TBL := hT _ (by simp)
  have hG : GoodIn TBL (sgW cs) := sg_good hcode
  have hini := hts (.initialized (sY cs).cls) (hT _ (by simp))
  have hin := hts (.instanceMethod (sY cs)) (hT _ (by simp))
  have hse : (Cond.selects (sY cs).cls (sY cs) (sY cs)).before args s = true := by rw [hcn]; exact hts (.selects "java/lang/String" (sY cs) (sY cs)) (hT _ (by simp))
  have hstack : ((Value.ref q :: as').reverse ++ r).map (cV ad) = (as'.map (cV ad)).reverse ++ .ref (ad q) :: r.map (cV ad) := by simp [cV]
  have hCS := hC D tc ad H.size
  obtain ⟨eq, hi⟩ := strQ_spec hq
  have hrecv : ∃ cell : Cell, H[ad q]? = some cell ∧ cell.vm.isStatics = false ∧ s.vm.findClass "java/lang/String" = some cell.cls := by
    have z := vk_recv hEF.2.2.2.2.1 hi hW.2.2
    have e1 : 1000 + (100 + i) = q := by omega
    simp only [e1] at z
    exact z
  have hpre := call_pre (as := .ref q :: as') hW hA hEF
  have hp' : PreV s H (sY cs).cls (ad q) (va_Pc ((Value.ref q :: as').map (cV ad)) (CPre X D tc ad H.size hp)) (as'.map (cV ad)) := ⟨hpre.1, by rw [hcn]; exact hrecv, hpre.2⟩
  have hn' : as'.length = sA cs - 1 := by simp at hn; omega
  refine call_end (a0 := ((Value.ref q :: as').map (cV ad)).toArray) ?_ hW hA kk
  rcases hz with rfl | rfl
  · have hlink := hts (.methodLink (sY g).cls ix (sY cs)) (hT0 rfl)
    exact va_runV S hCS ⟨callB_of (sA cs - 1) hts hG rfl rfl rfl hini hlink ⟨hsg.1.1, hsg.1.2, hsg.2⟩ ⟨hR.1, hR.2.1⟩, hin, hse⟩ hp' rfl (by simp [hn']) hLs hstack (call_room hc) hd ⟨hR.2.2.1, hR.2.2.2⟩
  · exact va_runVN S hCS ⟨va_cnB (sA cs - 1) hts hG rfl rfl rfl (hEF.2.1 _ (hN rfl)) hini ⟨hsg.1.1, hsg.1.2, hsg.2⟩ ⟨hR.1, hR.2.1⟩, hin, hse⟩ hp' rfl (by simp [hn']) hLs hstack (call_room hc) hd ⟨hR.2.2.1, hR.2.2.2⟩
/-- a constructor -/
theorem call_sp (hC : Ctr l d' X cs as hp Rq) (S : CallFix p m c (sB g) (sL g) s args TBL (sY g).cls) (hW : WR D tc ad A s hp H locs) (hA : ∀ q, s.heap.size ≤ q → A q) (hEF : EF X D tc (fun j => ad (1000 + j)) A s) (hLs : ls.size = sL g)
    (hd : decode (sB g) pc = .ok (.invokespecial ix, 3)) (hc : catN r ≤ 8) (hn : as.length = sA cs) {q : Nat} {as' : List Value} (has : as = .ref q :: as') (hsg : sgOk cs (sA cs - 1) = true) (hinit : (sY cs).name = "<init>") (hret : sR cs = none) (hT : ∀ w ∈ [Cond.instanceMethod (sY cs), .initialized (sY cs).cls, .code (sY cs) (sB cs) (sL cs) (sR cs)], w ∈ TBL) {own : String} (hown : own = (sY g).cls) {z : Int}
    (hT0 : z = 0 → Cond.methodLink own ix (sY cs) ∈ TBL) (hN : z = 1 → Cond.methodLinkNest own ix (sY cs) "SaidTwice" ∈ NWL) (hz : z = 0 ∨ z = 1)
    (hR : d' + 1 ≤ R.frames ∧ 8 + (sL cs + 11) + 64 * d' ≤ R.locals ∧ k + sC cs ≤ R.cells ∧ n + sS cs ≤ R.slots)
    (kk : ∀ (v : Option Value) (hp' : AH) (ad' : Nat → Nat) (H' : Heap) (locs' : List Loc), Rq hp' v → adK hp.length (sC cs) ad ad' → hp.length ≤ hp'.length → WR D tc ad' A s hp' H' locs' → W p l e R s m args below meth c H' locs' (k + sC cs) (n + sS cs) Z (F0 m (pc + 3) ls (v.toList.map (cV ad') ++ r.map (cV ad)))) :
    W p l e R s m args below meth c H locs k n Z (F0 m pc ls ((as.reverse ++ r).map (cV ad))) := by
  subst hown
  subst has
  have hts := S.2.2.2.2
  simp only [sgOk, Bool.and_eq_true, decide_eq_true_eq] at hsg
  have hcode : Cond.code (sY cs) (sB cs) (sL cs) (sR cs) ∈ TBL := hT _ (by simp)
  have hG : GoodIn TBL (sgW cs) := sg_good hcode
  have hini := hts (.initialized (sY cs).cls) (hT _ (by simp))
  have hin := hts (.instanceMethod (sY cs)) (hT _ (by simp))
  have hstack : ((Value.ref q :: as').reverse ++ r).map (cV ad) = (as'.map (cV ad)).reverse ++ .ref (ad q) :: r.map (cV ad) := by simp [cV]
  have hCS := hC D tc ad H.size
  have hpre := call_pre (as := .ref q :: as') hW hA hEF
  have hn' : as'.length = sA cs - 1 := by simp at hn; omega
  have hwc : sgW cs = Cond.code (sY cs) (sB cs) (sL cs) none :: TBL := by rw [← hret]; rfl
  refine call_end (a0 := ((Value.ref q :: as').map (cV ad)).toArray) ?_ hW hA kk
  rcases hz with rfl | rfl
  · have hlink := hts (.methodLink (sY g).cls ix (sY cs)) (hT0 rfl)
    exact va_runI S hCS ⟨callB_of (sA cs - 1) hts hG hwc rfl rfl hini hlink ⟨hsg.1.1, hsg.1.2, hsg.2⟩ ⟨hR.1, hR.2.1⟩, hinit, hin⟩ hpre rfl (by simp [hn']) hLs hstack (call_room hc) hd ⟨hR.2.2.1, hR.2.2.2⟩
  · exact va_runIN S hCS ⟨va_cnB (sA cs - 1) hts hG hwc rfl rfl (hEF.2.1 _ (hN rfl)) hini ⟨hsg.1.1, hsg.1.2, hsg.2⟩ ⟨hR.1, hR.2.1⟩, hinit, hin⟩ hpre rfl (by simp [hn']) hLs hstack (call_room hc) hd ⟨hR.2.2.1, hR.2.2.2⟩
end CALLS
end
section
-- 16.sound
theorem byt_len : ∀ i : Fin 7, lenS.getD i.val 0 = (bytS.getD i.val []).length := by decide
theorem sIx_tx {b ix : Nat} (h : sIx[b]? = some ix) : ∃ tx, sTx[b]? = some tx := by
  have hl : b < 7 := (List.getElem?_eq_some_iff.mp h).1
  exact ⟨_, List.getElem?_eq_getElem (show b < sTx.length from hl)⟩
set_option maxHeartbeats 4000000 in
set_option maxRecDepth 100000 in
/-- one instruction: what the abstract machine does, the machine does -/
theorem stp_sound {l : Launch} {R : Room} {X : List (List Int32)} {g : Sig} {code : List Row} {Q : AH → Option Value → Prop} {P : PP} (hC : Chk g code) (hP : ∀ i al st hp k n, P i al st hp k n → WP l R X g code Q i al st hp k n)
    {i : Nat} {al : LO} {st : List Value} {hp : AH} {k n : Nat} (h : stp l R X g code Q P i al st hp k n) : WP l R X g code Q i al st hp k n := by
  intro p e s m args below meth c D tc ad ad0 n0 A Z H locs ls hAF hZ hW hadk hn0 hk hn hL
  cases hrow : code[i]? with
  | none => unfold stp at h; rw [hrow] at h; exact h.elim
  | some row =>
  obtain ⟨ins, pc, nx, a, b, cc, ts, cs⟩ := row
  have hpc : pcO code i = pc := by simp [pcO, hrow]
  rw [hpc]
  have hAF0 := hAF
  obtain ⟨hx, hb, hml, hown, hts, hnm, hEF0, hA⟩ := hAF
  obtain ⟨hPw, hD, hS⟩ := hW
  have hmem := List.mem_of_getElem? hrow
  have hB : rowB g code (ins, pc, nx, a, b, cc, ts, cs) = true := linB_spec (code := code) (pre := []) rfl hC.1 _ hmem
  have hcall := allC_mem hC.2.1 _ hmem
  have hT : ∀ w ∈ needT (sY g).cls (ins, pc, nx, a, b, cc, ts, cs), w ∈ TBL := fun w h => hC.2.2.1 w (List.mem_flatMap.mpr ⟨_, hmem, h⟩)
  have hN : ∀ w ∈ needN (sY g).cls (ins, pc, nx, a, b, cc, ts, cs), w ∈ NWL := fun w h => hC.2.2.2.1 w (List.mem_flatMap.mpr ⟨_, hmem, h⟩)
  have hxa : (fun j => ad (1000 + j)) = (fun j => ad0 (1000 + j)) := by
    funext j
    exact hadk.1 _ (Or.inr (by omega))
  have hEF : EF X D tc (fun j => ad (1000 + j)) A s := by rw [hxa]; exact hEF0
  have hK := hEF.1
  have hstr : ∀ i, i < 7 → va_O "java/lang/String" (ad (1100 + i)) A s s.heap ∧ va_OF "java/lang/String" "coder" "B" (.int 0) (ad (1100 + i)) A s s.heap ∧ va_OF "java/lang/String" "value" "[B" (.ref (ad (1200 + i))) (ad (1100 + i)) A s s.heap ∧ va_T .byte (ad (1200 + i)) (lenS.getD i 0) (fun j => .int ((bytS.getD i []).getD j 0)) A s s.heap := by
    intro i hi
    have z := hEF.2.2.2.2.1.1 i hi
    have e1 : 1000 + (100 + i) = 1100 + i := by omega
    have e2 : 1000 + (200 + i) = 1200 + i := by omega
    simp only [e1, e2] at z
    exact z
  have hstrR : ∀ (i ix : Nat) (tx : String), sIx[i]? = some ix → sTx[i]? = some tx → vk_R "SaidTwice$Tokens" ix tx (ad (1100 + i)) s := by
    intro i ix tx h1 h2
    have z := hEF.2.2.2.2.2.1 i ix tx h1 h2
    have e1 : 1000 + (100 + i) = 1100 + i := by omega
    simp only [e1] at z
    exact z
  have hSf : CallFix p m c (sB g) (sL g) s args TBL (sY g).cls := ⟨hx, hb, hml, hown, hts⟩
  have go : ∀ {i' pc' : Nat} {al' : LO} {st' : List Value} {ls' : Array Slot}, pcO code i' = pc' → P i' al' st' hp k n → LR ad (sL g) al' ls' → W p l e R s m args below meth c H locs k n Z (F0 m pc' ls' (st'.map (cV ad))) := by
    intro i' pc' al' st' ls' hq h1 h2
    subst hq
    exact hP _ _ _ _ _ _ h1 p e s m args below meth c D tc ad ad0 n0 A Z H locs ls' hAF0 hZ ⟨hPw, hD, hS⟩ hadk hn0 hk hn h2
  have goH : ∀ {i' pc' : Nat} {st' : List Value} {hp' : AH} {H' : Heap} {locs' : List Loc}, pcO code i' = pc' → P i' al st' hp' k n → WR D tc ad A s hp' H' locs' → hp'.length = hp.length → W p l e R s m args below meth c H' locs' k n Z (F0 m pc' ls (st'.map (cV ad))) := by
    intro i' pc' st' hp' H' locs' hq h1 h2 h3
    subst hq
    exact hP _ _ _ _ _ _ h1 p e s m args below meth c D tc ad ad0 n0 A Z H' locs' ls hAF0 hZ h2 hadk (by omega) hk hn hL
  have goC : ∀ {as r st' : List Value} {Rq : AH → Option Value → Prop} {pc' : Nat}, (Nat.beq (sC cs) 0 || (rOkS hp.length r && rOkL hp.length al)) = true → k + sC cs ≤ R.cells → n + sS cs ≤ R.slots → pcO code nx = pc' → (∀ hp' v, Rq hp' v → P nx al (v.toList ++ r) hp' (k + sC cs) (n + sS cs)) →
      ∀ (v : Option Value) (hp' : AH) (ad' : Nat → Nat) (H' : Heap) (locs' : List Loc), Rq hp' v → adK hp.length (sC cs) ad ad' → hp.length ≤ hp'.length → WR D tc ad' A s hp' H' locs' → W p l e R s m args below meth c H' locs' (k + sC cs) (n + sS cs) Z (F0 m pc' ls (v.toList.map (cV ad') ++ r.map (cV ad))) := by
    intro as r st' Rq pc' hok hk1 hn1 hq hall v hp' ad' H' locs' hR hak hlen hW'
    subst hq
    have hre : r.map (cV ad') = r.map (cV ad) ∧ LR ad' (sL g) al ls := by
      by_cases h0 : sC cs = 0
      · rw [hak.2 h0]
        exact ⟨rfl, hL⟩
      · simp only [Bool.or_eq_true, Bool.and_eq_true] at hok
        rcases hok with z | ⟨z1, z2⟩
        · exact absurd (Nat.eq_of_beq_eq_true z) h0
        · exact ⟨rOkS_map hak.1 r z1, hL.kept hak.1 z2⟩
    have := hP _ _ _ _ _ _ (hall hp' v hR) p e s m args below meth c D tc ad' ad0 n0 A Z H' locs' ls hAF0 hZ hW' (hadk.trans hak hn0 (by omega)) (by omega) hk1 hn1 hre.2
    rw [List.map_append, hre.1] at this
    exact this
  refine stp_plain (D := D) (tc := tc) (A := A) hC hB hT hrow h hx hb hown hts hL go (fun hoth => ?_)
  unfold stp at h
  rw [hrow] at h
  dsimp only at h
  cases ins
  case ldc ix =>
    try dsimp only at h
    obtain ⟨hd, hq⟩ := bt hB
    simp only [Bool.and_eq_true, decide_eq_true_eq] at hq
    obtain ⟨hm, hnx⟩ := hq
    cases ha : Nat.beq a 50 with
    | true =>
      rw [ha] at h hm
      simp only [Bool.and_eq_true, decide_eq_true_eq] at hm
      obtain ⟨hm1, hm2⟩ := hm
      obtain ⟨tx, htx⟩ := sIx_tx hm1
      have hZs := hstrR b ix tx hm1 htx
      rw [← hm2] at hZs
      exact va_ldcS hx hb hown hZs hd (go hnx h hL)
    | false =>
      rw [ha] at h
      have n50 : ¬ a = 50 := fun z => by subst z; cases ha
      refine lv_ldc hx hb hown (hts (.constant (sY g).cls ix (Int32.ofInt cc)) (hT _ (by simp [needT, n50]))) hd ?_
      exact go hnx h hL
  case baload =>
    try dsimp only at h
    obtain ⟨hd, hnx⟩ := bd hB
    split at h
    · rename_i j q r
      split at h
      · rename_i i0 hq0
        obtain ⟨rfl, hi⟩ := bytQ_spec hq0
        obtain ⟨c1, q1, q2, q3, q4, q5, q6, q7⟩ := (hstr i0 hi).2.2.2.kept hS.2.1
        have hj : j.toNatClampNeg < lenS.getD i0 0 := Nat.not_le.mp fun z => h.1 (Or.inr z)
        exact W.bald (v := .int ((bytS.getD i0 []).getD j.toNatClampNeg 0)) hx hb q1 q2 q3 (fun z => z.elim (fun z => h.1 (Or.inl z)) (fun z => by omega)) (q6 _ hj) rfl rfl hd (go hnx h.2 hL)
      · exact h.elim
    · exact h.elim
  case arraylength =>
    try dsimp only at h
    obtain ⟨hd, hnx⟩ := bd hB
    split at h
    · rename_i q r
      obtain ⟨xs, hxs, h⟩ := h
      rcases rowA_spec hxs with hxs | ⟨i0, hq0, rfl⟩
      rotate_left
      · obtain ⟨rfl, hi⟩ := bytQ_spec hq0
        obtain ⟨c1, q1, q2, q3, q4, q5, q6, q7⟩ := (hstr i0 hi).2.2.2.kept hS.2.1
        have el : lenS.getD i0 0 = (bytS.getD i0 []).length := byt_len ⟨i0, hi⟩
        exact W.alen hx hb q1 q2 (q5.trans (by rw [el])) rfl rfl hd (go hnx h hL)
      rcases rowI_spec hxs with ⟨hq', hxs⟩ | hxs
      · obtain ⟨g1, g2, g3⟩ := hEF.2.2.2.1 _ _ hxs
        have eq1 : 1000 + (q - 1000) = q := Nat.add_sub_of_le hq'
        simp only [eq1] at g1 g2 g3
        obtain ⟨c1, q1, q2, q3, q4, q5, q6⟩ := g1
        exact W.alen hx hb (by rw [hS.2.1 _ g2 g3]; exact q1) q2 q5 rfl rfl hd (go hnx h hL)
      · exact va_alen hx hb hK hPw q 0 (cW_get (ad := ad) (tc := tc) hxs) rfl rfl hd (go hnx h hL)
    · exact h.elim
  case iaload =>
    try dsimp only at h
    obtain ⟨hd, hnx⟩ := bd hB
    split at h
    · rename_i j q r
      obtain ⟨xs, hxs, h⟩ := h
      rcases rowI_spec hxs with ⟨hq', hxs⟩ | hxs
      · obtain ⟨g1, g2, g3⟩ := hEF.2.2.2.1 _ _ hxs
        have eq1 : 1000 + (q - 1000) = q := Nat.add_sub_of_le hq'
        simp only [eq1] at g1 g2 g3
        obtain ⟨c1, q1, q2, q3, q4, q5, q6⟩ := g1
        have hj : j.toNatClampNeg < xs.length := Nat.not_le.mp fun z => h.1 (Or.inr z)
        exact W.iald (v := .int (xs.getD j.toNatClampNeg 0)) hx hb (by rw [hS.2.1 _ g2 g3]; exact q1) q2 q3 (fun z => z.elim (fun z => h.1 (Or.inl z)) (fun z => by omega)) (q6 _ hj) rfl rfl hd (go hnx h.2 hL)
      · exact va_iald hx hb hK hPw q 0 (cW_get (ad := ad) (tc := tc) hxs) rfl h.1 hd (go hnx h.2 hL)
    · exact h.elim
  case laload =>
    try dsimp only at h
    obtain ⟨hd, hnx⟩ := bd hB
    split at h
    · rename_i j q r
      obtain ⟨xs, hxs, h⟩ := h
      exact va_lald hx hb hK hPw q 1 (cW_get (ad := ad) (tc := tc) hxs) rfl h.1 hd (go hnx h.2 hL)
    · exact h.elim
  case iastore =>
    try dsimp only at h
    obtain ⟨hd, hnx⟩ := bd hB
    split at h
    · rename_i x j q r
      obtain ⟨xs, hxs, h1, h3⟩ := h
      have hj : j.toNatClampNeg < xs.length := Nat.not_le.mp fun z => h1 (Or.inr z)
      refine va_iast hx hb hK hPw hD hS q 0 (cW_get (ad := ad) (tc := tc) hxs) rfl h1 hd (fun H1 locs1 g1 g2 g3 => ?_)
      rw [cE_seI hj, cW_set] at g1 g2
      exact goH hnx h3 ⟨g1, g2, g3⟩ (by simp)
    · exact h.elim
  case lastore =>
    try dsimp only at h
    obtain ⟨hd, hnx⟩ := bd hB
    split at h
    · rename_i x j q r
      obtain ⟨xs, hxs, h1, h3⟩ := h
      have hj : j.toNatClampNeg < xs.length := Nat.not_le.mp fun z => h1 (Or.inr z)
      refine va_last hx hb hK hPw hD hS q 1 (cW_get (ad := ad) (tc := tc) hxs) rfl h1 hd (fun H1 locs1 g1 g2 g3 => ?_)
      rw [cE_seL hj, cW_set] at g1 g2
      exact goH hnx h3 ⟨g1, g2, g3⟩ (by simp)
    · exact h.elim
  case getstatic ix =>
    try dsimp only at h
    obtain ⟨hd, hnx⟩ := bd hB
    split at h
    · rename_i ha
      have e : a = 51 := Nat.eq_of_beq_eq_true ha
      subst e
      exact va_gets hx hb hEF.2.2.2.2.2.2.1 hS hown (hts _ (hT _ (by simp [needT]))) (fun _ q => q) hd (go hnx h hL)
    · rename_i ha1 ha
      have e : a = 52 := Nat.eq_of_beq_eq_true ha
      subst e
      rcases hEF.2.2.2.2.2.2.2 with z | z
      · exact va_gets hx hb z hS hown (hts _ (hT _ (by simp [needT]))) (fun _ q => q) hd (go hnx h.1 hL)
      · exact va_gets hx hb z hS hown (hts _ (hT _ (by simp [needT]))) (fun _ q => q) hd (go hnx h.2 hL)
    · rename_i ha1 ha2
      have n51 : ¬ a = 51 := fun z => by subst z; cases ha1
      have n52 : ¬ a = 52 := fun z => by subst z; cases ha2
      exact va_gets hx hb hEF.2.2.1 hS hown (hts _ (hT _ (by simp [needT, n51, n52]))) (fun _ q => q) hd (go hnx h hL)
  case getfield ix =>
    try dsimp only at h
    obtain ⟨hd, hq⟩ := bt hB
    simp only [Bool.and_eq_true, decide_eq_true_eq] at hq
    obtain ⟨hcl, hz, hnx⟩ := hq
    split at h
    · rename_i q r
      cases ha : Nat.beq a 50 with
      | true =>
        rw [ha] at h hcl
        have e50 : a = 50 := Nat.eq_of_beq_eq_true ha
        subst e50
        have hlink := hts (.fieldLink (sY g).cls ix "java/lang/String" (strF b).1 (strF b).2) (hT _ (by simp [needT]))
        have hb1 := Nat.le_of_ble_eq_true hcl
        dsimp only at h
        split at h
        · rename_i i0 hq0
          obtain ⟨rfl, hi⟩ := strQ_spec hq0
          rcases (show b = 0 ∨ b = 1 by omega) with rfl | rfl
          · exact vk_getf hx hb (hstr i0 hi).2.1 hS hown hlink (fun _ z => z) hd (go hnx h hL)
          · exact vk_getf hx hb (hstr i0 hi).2.2.1 hS hown hlink (fun _ z => z) hd (go hnx h hL)
        · exact h.elim
      | false =>
      rw [ha] at h hcl
      dsimp only at h hcl
      have n50 : ¬ a = 50 := fun z => by subst z; cases ha
      obtain ⟨hc1, hc2, hc3⟩ := cl_all hcl
      split at h
      · rename_i ci fs hfs
        split at h
        · rename_i v hci hv
          have hci' : ci = a := Nat.eq_of_beq_eq_true hci
          subst hci'
          have he := cW_get (ad := ad) (tc := tc) hfs
          have hv' : (fs.map (cV ad))[b]? = some (cV ad v) := by rw [List.getElem?_map, hv]; rfl
          rcases hz with rfl | rfl
          · exact va_get hx hb hts hc3.1 hown hK hPw q he hc1 b hc2 (hts _ (hT _ (by simp only [needT, if_neg n50, if_pos]; exact List.mem_cons_self))) (fun _ z => by rw [← hc3.2.2.2 b hc2]; exact z) hv' hd (go hnx h hL)
          · exact va_getN hx hb hts hc3.1 hown hK hPw q he hc1 b hc2 (va_Nw.use rfl (hEF.2.1 _ (hN _ List.mem_cons_self))) (fun _ z => by rw [← hc3.2.2.2 b hc2]; exact z) hv' hd (go hnx h hL)
        · exact h.elim
      · exact h.elim
    · exact h.elim
  case putfield ix =>
    try dsimp only at h
    obtain ⟨hd, hq⟩ := bt hB
    simp only [Bool.and_eq_true, decide_eq_true_eq] at hq
    obtain ⟨hcl, hz, hfin, hnx⟩ := hq
    obtain ⟨hc1, hc2, hc3⟩ := cl_all hcl
    split at h
    · rename_i v q r
      split at h
      · rename_i ci fs hfs
        split at h
        · rename_i hci
          have hci' : ci = a := Nat.eq_of_beq_eq_true hci
          subst hci'
          obtain ⟨h1, h2⟩ := h
          obtain ⟨h2, h3⟩ := seV_spec h2
          obtain ⟨h4, h5⟩ := seH_spec h3
          have he := cW_get (ad := ad) (tc := tc) hfs
          obtain ⟨e1, e2⟩ := putOk_spec ad h1
          have hl : b < (fs.map (cV ad)).length := by simpa using h2
          have fin : ∀ (H1 : Heap) (locs1 : List Loc), va_P D vwCl ((cW ad tc hp).set q (ad q, .inr (ci, (fs.map (cV ad)).set b (cV ad v)))) H1 → va_D A ((cW ad tc hp).set q (ad q, .inr (ci, (fs.map (cV ad)).set b (cV ad v)))) → va_S A s.heap H1 locs1 → W p l e R s m args below meth c H1 locs1 k n Z (F0 m (pc + 3) ls (r.map (cV ad))) := by
            intro H1 locs1 g1 g2 g3
            have e3 : (Sum.inr (ci, (fs.map (cV ad)).set b (cV ad v)) : va_E) = cE ad tc (AO ci (fs.set b v)) := by
              simp [cE, List.map_set]
            rw [e3, cW_set] at g1 g2
            exact goH hnx h5 ⟨g1, g2, g3⟩ (by simp)
          rcases hfin with hf | ⟨hf1, hf2, rfl⟩
          · rcases hz with rfl | rfl
            · exact va_put hx hb hts hc3.1 _ hc3.2.1 hc3.2.2.1 hown hK hPw hD hS q he hc1 b hc2 (hts _ (hT _ List.mem_cons_self)) (fun _ z => by rw [← hc3.2.2.2 b hc2]; exact z) hf (hc3.2.1 b hc2) e1 e2 hl hd fin
            · exact va_putN hx hb hts hc3.1 _ hc3.2.1 hc3.2.2.1 hown hK hPw hD hS q he hc1 b hc2 (va_Nw.use rfl (hEF.2.1 _ (hN _ List.mem_cons_self))) (fun _ z => by rw [← hc3.2.2.2 b hc2]; exact z) hf (hc3.2.1 b hc2) e1 e2 hl hd fin
          · cases hfb : (clF ci b).2.2.2 with
            | false => exact va_put hx hb hts hc3.1 _ hc3.2.1 hc3.2.2.1 hown hK hPw hD hS q he hc1 b hc2 (hts _ (hT _ List.mem_cons_self)) (fun _ z => by rw [← hc3.2.2.2 b hc2]; exact z) hfb (hc3.2.1 b hc2) e1 e2 hl hd fin
            | true => exact va_putF hx hb hts hc3.1 _ hc3.2.1 hc3.2.2.1 hown hK hPw hD hS q he hc1 b hc2 (hts _ (hT _ List.mem_cons_self)) (fun _ z => by rw [← hc3.2.2.2 b hc2]; exact z) hfb (hnm hf1) hf2 (hc3.2.1 b hc2) e1 e2 hl hd fin
        · exact h.elim
      · exact h.elim
    · exact h.elim
  case ireturn =>
    try dsimp only at h
    obtain ⟨hd, -⟩ := bt hB
    split at h
    · rename_i x
      unfold retOk at h
      split at h
      · rename_i hr
        exact hZ (some (.int x)) hp ad H locs k n pc ls h ⟨hPw, hD, hS⟩ hadk hn0 hk hn ⟨hd, _, hr, rfl⟩
      · rename_i t hr1 hr
        exact hZ (some (.int x)) hp ad H locs k n pc ls h.2 ⟨hPw, hD, hS⟩ hadk hn0 hk hn ⟨hd, _, hr, h.1⟩
      · exact h.elim
    · exact h.elim
  case lreturn =>
    try dsimp only at h
    obtain ⟨hd, -⟩ := bt hB
    split at h
    · rename_i x
      exact hZ (some (.long x)) hp ad H locs k n pc ls h.2 ⟨hPw, hD, hS⟩ hadk hn0 hk hn ⟨hd, h.1⟩
    · exact h.elim
  case return_ =>
    try dsimp only at h
    obtain ⟨hd, -⟩ := bt hB
    split at h
    · exact hZ none hp ad H locs k n pc ls h.2 ⟨hPw, hD, hS⟩ hadk hn0 hk hn ⟨hd, h.1⟩
    · exact h.elim
  case new ix =>
    try dsimp only at h
    obtain ⟨hd, hq⟩ := bt hB
    simp only [Bool.and_eq_true, decide_eq_true_eq] at hq
    obtain ⟨hcl, hnx⟩ := hq
    obtain ⟨hc1, -, hc3⟩ := cl_all hcl
    rw [hc1] at h
    dsimp only at h
    obtain ⟨hok, ⟨hk1, hn1⟩, hlt, h⟩ := h
    simp only [Bool.and_eq_true] at hok
    refine va_new (ci := a) (fs := dfl a (clS a)) hx hb hts hc3.1 _ hc3.2.1 hown (hts _ (hT (.classLink (sY g).cls ix (clN a)) (by simp [needT]))) (hts _ (hT (.instantiable (clN a) (clS a)) (by simp [needT]))) (hts _ (hT (.initialized (clN a)) (by simp [needT]))) hK hPw hD hS hA hc1 (fun j hj => ?_) hk1 hn1 hd (fun q H1 g1 g2 g3 => ?_)
    · simp [vp_V, dfl, hj, List.getD_eq_getElem?_getD]
    · have ec := cW_push (ad := ad) (tc := tc) (q := q) (x := AO a (dfl a (clS a))) (z := .inr (a, dfl a (clS a))) hok.1 (by simp [cE, cV_dfl]) hlt
      rw [← ec] at g1 g2
      have hak : adK hp.length 1 ad (fun k => if k = hp.length then q else ad k) := ⟨fun k hk => if_neg (by rcases hk with hk | hk <;> omega), fun z => by omega⟩
      have key := hP _ _ _ _ _ _ h p e s m args below meth c D tc _ ad0 n0 A Z H1 locs ls hAF0 hZ ⟨g1, g2, g3⟩ (hadk.trans hak hn0 (by omega)) (by simp; omega) hk1 hn1 (hL.kept hak.1 hok.2.2)
      rw [hnx, List.map_cons, rOkS_map hak.1 st hok.2.1] at key
      simpa [cV] using key
  case newarray t =>
    try dsimp only at h
    obtain ⟨hd, hnx⟩ := bd hB
    have hnx2 : pcO code nx = pc + 2 := hnx
    have harr := hts _ (hT (.arrayClass (newarray.typeOf t)) (by simp [needT]))
    split at h
    · rename_i x r
      cases t
      case int =>
        obtain ⟨hok, ⟨hk1, hn1⟩, hlt, ⟨hx0, hxN⟩, h⟩ := h
        simp only [Bool.and_eq_true] at hok
        refine va_newa (atype := .int) (ty := .int) (N' := x.toNatClampNeg) hx hb harr rfl hK hPw hD hS hA (fun cA => rep_cellI cA x.toNatClampNeg) hx0 rfl (by show x.toNatClampNeg * 4 ≤ 536870912; omega) hk1 hn1 hd (fun q cA H1 gK g1 g2 g3 => ?_)
        have h1 := (hK.2 0 (tc 0, .int) rfl).2
        have h2 := (gK.2 2 (cA, .int) rfl).2
        have hcA : cA = tc 0 := Option.some.inj (h2.symm.trans h1)
        subst hcA
        have ec := cW_push (ad := ad) (tc := tc) (q := q) (x := AI (List.replicate x.toNatClampNeg 0)) (z := .inl (tc 0, (List.replicate x.toNatClampNeg (0 : Int32)).length, .inl (fun j => (List.replicate x.toNatClampNeg (0 : Int32)).getD j 0))) hok.1 rfl hlt
        rw [← ec] at g1 g2
        have hak : adK hp.length 1 ad (fun k => if k = hp.length then q else ad k) := ⟨fun k hk => if_neg (by rcases hk with hk | hk <;> omega), fun z => by omega⟩
        have hok2 := hok.2.1
        simp only [rOkS, List.all_cons, Bool.and_eq_true] at hok2
        have key := hP _ _ _ _ _ _ h p e s m args below meth c D tc _ ad0 n0 A Z H1 locs ls hAF0 hZ ⟨g1, g2, g3⟩ (hadk.trans hak hn0 (by omega)) (by simp; omega) hk1 hn1 (hL.kept hak.1 hok.2.2)
        rw [hnx2, List.map_cons, rOkS_map hak.1 r hok2.2] at key
        simpa [cV] using key
      case long =>
        obtain ⟨hok, ⟨hk1, hn1⟩, hlt, ⟨hx0, hxN⟩, h⟩ := h
        simp only [Bool.and_eq_true] at hok
        refine va_newa (atype := .long) (ty := .long) (N' := x.toNatClampNeg) hx hb harr rfl hK hPw hD hS hA (fun cA => rep_cellL cA x.toNatClampNeg) hx0 rfl (by show x.toNatClampNeg * 8 ≤ 536870912; omega) hk1 hn1 hd (fun q cA H1 gK g1 g2 g3 => ?_)
        have h1 := (hK.2 1 (tc 1, .long) rfl).2
        have h2 := (gK.2 2 (cA, .long) rfl).2
        have hcA : cA = tc 1 := Option.some.inj (h2.symm.trans h1)
        subst hcA
        have ec := cW_push (ad := ad) (tc := tc) (q := q) (x := AL (List.replicate x.toNatClampNeg 0)) (z := .inl (tc 1, (List.replicate x.toNatClampNeg (0 : Int64)).length, .inr (.inl (fun j => (List.replicate x.toNatClampNeg (0 : Int64)).getD j 0)))) hok.1 rfl hlt
        rw [← ec] at g1 g2
        have hak : adK hp.length 1 ad (fun k => if k = hp.length then q else ad k) := ⟨fun k hk => if_neg (by rcases hk with hk | hk <;> omega), fun z => by omega⟩
        have hok2 := hok.2.1
        simp only [rOkS, List.all_cons, Bool.and_eq_true] at hok2
        have key := hP _ _ _ _ _ _ h p e s m args below meth c D tc _ ad0 n0 A Z H1 locs ls hAF0 hZ ⟨g1, g2, g3⟩ (hadk.trans hak hn0 (by omega)) (by simp; omega) hk1 hn1 (hL.kept hak.1 hok.2.2)
        rw [hnx2, List.map_cons, rOkS_map hak.1 r hok2.2] at key
        simpa [cV] using key
      all_goals exact h.elim
    · exact h.elim
  case invokestatic ix =>
    try dsimp only at h
    obtain ⟨hd, hq⟩ := bt hB
    simp only [Bool.and_eq_true, decide_eq_true_eq] at hq
    obtain ⟨hz, hnx⟩ := hq
    split at h
    · rename_i hb7
      have hb7' : b = 7 := Nat.eq_of_beq_eq_true hb7
      subst hb7'
      split at h
      · rename_i y x r
        obtain ⟨⟨hcat, hf, hlo⟩, h⟩ := h
        have hw : ∀ w ∈ [Cond.methodLink (sY g).cls ix Lib.Math.max.name, .static Lib.Math.max.name, .initialized "java/lang/Math", .code Lib.Math.max.name Lib.Math.max.code 2 (some .int)], w ∈ TBL := fun w hw => hT w hw
        refine va_mmax hx hb (hml.trans hL.2.1.symm) hown (hts _ (hw _ (by simp))) (hts _ (hw _ (by simp))) (hts _ (hw _ (by simp))) (hts _ (hw _ (by simp))) hf ?_ hk hn hd ?_
        · rw [catN_sum]
          have := Nat.le_of_ble_eq_true hcat
          omega
        · exact go hnx h hL
      · exact h.elim
    · rename_i hb8 hb7
      have hb8' : b = 8 := Nat.eq_of_beq_eq_true hb8
      subst hb8'
      split at h
      · rename_i y x r
        obtain ⟨⟨hcat, hf, hlo⟩, h⟩ := h
        have hw : ∀ w ∈ [Cond.methodLink (sY g).cls ix Lib.Math.min.name, .static Lib.Math.min.name, .initialized "java/lang/Math", .code Lib.Math.min.name Lib.Math.min.code 2 (some .int)], w ∈ TBL := fun w hw => hT w hw
        refine va_mmin hx hb (hml.trans hL.2.1.symm) hown (hts _ (hw _ (by simp))) (hts _ (hw _ (by simp))) (hts _ (hw _ (by simp))) (hts _ (hw _ (by simp))) hf ?_ hk hn hd ?_
        · rw [catN_sum]
          have := Nat.le_of_ble_eq_true hcat
          omega
        · exact go hnx h hL
      · exact h.elim
    · rename_i hb7 hb8
      have n7 : ¬ b = 7 := fun z => by subst z; cases hb7
      have n8 : ¬ b = 8 := fun z => by subst z; cases hb8
      have hcall2 : SgS cs := by
        unfold callOk at hcall
        simp only [hb7, hb8, Bool.or_false] at hcall
        exact hcall
      obtain ⟨hsg, hTs⟩ := hcall2
      obtain ⟨as, r, hn', hst, h'⟩ := popN_spec h
      subst hst
      clear h
      rw [List.append_nil] at h'
      split at h'
      · rename_i hcat hok
        obtain ⟨d', Rq, hR, hCt, hall⟩ := h'
        exact call_st hCt hSf ⟨hPw, hD, hS⟩ hA hEF hL.2.1 hd (Nat.le_of_ble_eq_true hcat) hn' hsg hTs rfl (z := cc) (fun hz0 => hT _ (by subst hz0; simp [needT, n7, n8])) (fun hz1 => hN _ (by subst hz1; exact List.mem_cons_self)) hz hR (goC (as := as) (st' := []) hok hR.2.2.1 hR.2.2.2 hnx hall)
      · exact h'.elim
  case invokevirtual ix =>
    try dsimp only at h
    obtain ⟨hd, hq⟩ := bt hB
    simp only [Bool.and_eq_true, decide_eq_true_eq] at hq
    obtain ⟨hz, hnx⟩ := hq
    obtain ⟨as, r, hn', hst, h'⟩ := popN_spec h
    subst hst
    clear h
    rw [List.append_nil] at h'
    split at h'
    · rename_i q as'
      cases ha : Nat.beq a 50 with
      | true =>
        rw [ha] at h'
        have hcall2 : SgX cs := by
          unfold callOk at hcall
          simp only [ha] at hcall
          exact hcall
        obtain ⟨hq2, hTs⟩ := hcall2
        simp only [Bool.and_eq_true, decide_eq_true_eq] at hq2
        obtain ⟨hsg, hcn, h1A, hC0⟩ := hq2
        dsimp only at h'
        split at h'
        · rename_i i0 hq0 hcat hok
          obtain ⟨d', Rq, hR, hCt, hall⟩ := h'
          exact call_vs hCt hSf ⟨hPw, hD, hS⟩ hA hEF hL.2.1 hd (Nat.le_of_ble_eq_true hcat) hn' rfl hsg hq0 hcn hTs rfl (z := cc) (fun hz0 => hT _ (by subst hz0; exact List.mem_cons_self)) (fun hz1 => hN _ (by subst hz1; exact List.mem_cons_self)) hz hR (goC (as := .ref q :: as') (st' := []) (by rw [hok]; rfl) hR.2.2.1 hR.2.2.2 hnx hall)
        · exact h'.elim
      | false =>
      rw [ha] at h'
      dsimp only at h'
      have hcall2 : SgV cs a := by
        unfold callOk at hcall
        simp only [ha] at hcall
        exact hcall
      obtain ⟨hq2, hTs⟩ := hcall2
      simp only [Bool.and_eq_true, decide_eq_true_eq] at hq2
      obtain ⟨hsg, hcn, hcl, h1A⟩ := hq2
      split at h'
      · rename_i ci fs hfs
        split at h'
        · rename_i hci hcat hok
          have hci' : ci = a := Nat.eq_of_beq_eq_true hci
          subst hci'
          obtain ⟨d', Rq, hR, hCt, hall⟩ := h'
          exact call_vi hCt hSf ⟨hPw, hD, hS⟩ hA hEF hL.2.1 hd (Nat.le_of_ble_eq_true hcat) hn' rfl hsg hfs hcl hcn hTs rfl (z := cc) (fun hz0 => hT _ (by subst hz0; exact List.mem_cons_self)) (fun hz1 => hN _ (by subst hz1; exact List.mem_cons_self)) hz hR (goC (as := .ref q :: as') (st' := []) hok hR.2.2.1 hR.2.2.2 hnx hall)
        · exact h'.elim
      · exact h'.elim
    · exact h'.elim
  case invokespecial ix =>
    try dsimp only at h
    obtain ⟨hd, hq⟩ := bt hB
    simp only [Bool.and_eq_true, decide_eq_true_eq] at hq
    obtain ⟨hz, hnx⟩ := hq
    split at h
    · rename_i hb9
      have hb9' : b = 9 := Nat.eq_of_beq_eq_true hb9
      subst hb9'
      split at h
      · rename_i q r
        split at h
        · rename_i hcat
          obtain ⟨⟨hf, hlo⟩, h⟩ := h
          refine W.objInit hx hb hown (hts _ (hT (.methodLink (sY g).cls ix Lib.objectInit) (by simp [needT]))) (hts _ (hT (.instanceMethod Lib.objectInit) (by simp [needT]))) (hts _ (hT (.code Lib.objectInit ⟨#[0xb1]⟩ 1 none) (by simp [needT]))) rfl (by rw [hml]; exact hL.2.1) (a := ad q) (rest := r.map (cV ad)) rfl hd hf ?_ ?_
          · have := call_room (m := m) (pc := pc) (ls := ls) (st0 := []) (ad := ad) (r := r) (Nat.le_of_ble_eq_true hcat)
            have e2 : (F0 m pc ls ((Value.ref q :: r).map (cV ad))).monitorRoom = (F0 m pc ls []).monitorRoom := rfl
            rw [e2]
            omega
          · exact go hnx h hL
        · exact h.elim
      · exact h.elim
    · rename_i hb9
      have hb9' : ¬ b = 9 := fun z => by subst z; cases hb9
      have hcall2 : SgI cs := by
        unfold callOk at hcall
        simp only [hb9] at hcall
        exact hcall
      obtain ⟨hq2, hTs⟩ := hcall2
      simp only [Bool.and_eq_true, decide_eq_true_eq] at hq2
      obtain ⟨hsg, h1A, hin, hret⟩ := hq2
      obtain ⟨as, r, hn', hst, h'⟩ := popN_spec h
      subst hst
      clear h
      rw [List.append_nil] at h'
      split at h'
      · rename_i q as'
        split at h'
        · rename_i hcat hok
          obtain ⟨d', Rq, hR, hCt, hall⟩ := h'
          exact call_sp hCt hSf ⟨hPw, hD, hS⟩ hA hEF hL.2.1 hd (Nat.le_of_ble_eq_true hcat) hn' rfl hsg hin hret hTs rfl (z := cc) (fun hz0 => hT _ (by subst hz0; simp [needT, hb9'])) (fun hz1 => hN _ (by subst hz1; simp [needN, hb9'])) hz hR (goC (as := .ref q :: as') (st' := []) hok hR.2.2.1 hR.2.2.2 hnx hall)
        · exact h'.elim
      · exact h'.elim
  case tableswitch d lo hi offs =>
    try dsimp only at h
    simp only [rowB, rowP, Bool.and_eq_true, decide_eq_true_eq] at hB
    obtain ⟨hd, ht, hoffs, hhi⟩ := hB
    split at h
    · rename_i x r
      by_cases hlo : x.toInt < lo ∨ hi < x.toInt
      · exact lv_tableOut hx hb hd hlo ht (go rfl (h.1 hlo) hL)
      · have g1 : ¬ x.toInt < lo := fun z => hlo (Or.inl z)
        have g2 : ¬ hi < x.toInt := fun z => hlo (Or.inr z)
        have hj : (x.toInt - lo).toNat < ts.length := by omega
        have hlen : offs.toList.length = ts.length := by
          have := congrArg List.length hoffs
          simpa using this
        have hjo : (x.toInt - lo).toNat < offs.size := by rw [← Array.length_toList, hlen]; exact hj
        have hoff : (pc : Int) + offs[(x.toInt - lo).toNat] = (pcO code ts[(x.toInt - lo).toNat] : Int) := by
          have := congrArg (fun z => z[(x.toInt - lo).toNat]?) hoffs
          simp only [List.getElem?_map, List.getElem?_eq_getElem hj, Option.map_some, Array.getElem?_toList, Array.getElem?_eq_getElem hjo] at this
          exact Option.some.inj this
        refine lv_tableIn hx hb hd g1 g2 (Array.getElem?_eq_getElem hjo) hoff ?_
        have ex : x = Int32.ofInt (lo + (((x.toInt - lo).toNat : Nat) : Int)) := by
          have : lo + (((x.toInt - lo).toNat : Nat) : Int) = x.toInt := by omega
          rw [this, Int32.ofInt_toInt]
        exact go rfl (swT_spec (K := fun t => P t al r hp k n) h.2 (List.getElem?_eq_getElem hj) ex) hL
    · exact h.elim
  case lookupswitch d ps =>
    try dsimp only at h
    simp only [rowB, rowP, Bool.and_eq_true, decide_eq_true_eq, List.all_eq_true (p := fun o : Int × Int => decide ((Int32.ofInt o.1).toInt = o.1))] at hB
    obtain ⟨hd, ht, hoffs, hsort, hrng⟩ := hB
    split at h
    · rename_i x r
      obtain ⟨off, t, g1, g2, g3⟩ := swL_spec (K := fun t => P t al r hp k n) ht hoffs (fun o ho => by simpa using hrng o ho) h.2 h.1
      exact lv_lookup hx hb hd hsort g1 g2 (go rfl g3 hL)
    · exact h.elim
  all_goals exact hoth.elim
end
section
-- 17.method
/-- many instructions -/
theorem run_sound {l : Launch} {R : Room} {X : List (List Int32)} {g : Sig} {code : List Row} {Q : AH → Option Value → Prop} (hC : Chk g code) (cut : Nat → Bool) : ∀ (f : Nat) {i : Nat} {al : LO} {st : List Value} {hp : AH} {k n : Nat}, run l R X g code cut Q (WP l R X g code Q) f i al st hp k n → WP l R X g code Q i al st hp k n := by
  intro f
  induction f with
  | zero => intro i al st hp k n h; exact h
  | succ f ih =>
    intro i al st hp k n h
    refine stp_sound hC (fun i' al' st' hp' k' n' h' => ?_) h
    split at h'
    · exact h'
    · exact ih h'
/-- the locals at a method's entry -/
def enL : List Value → Nat → LO
  | [], n => List.replicate n none
  | v :: r, n => match v with
    | .long x => some (.long x) :: none :: enL r (n - 2)
    | .double x => some (.double x) :: none :: enL r (n - 2)
    | w => some w :: enL r (n - 1)
theorem enL_cons {v : Value} {r : List Value} {n : Nat} : enL (v :: r) n = if v.category = 2 then some v :: none :: enL r (n - 2) else some v :: enL r (n - 1) := by
  cases v <;> simp [enL, Value.category]
theorem lg_len (v : Value) (q : List Value) : (lg_sl (v :: q)).length = (if v.category = 2 then 2 else 1) + (lg_sl q).length := by
  have e : lg_sl (v :: q) = (if v.category = 2 then [Slot.val v, Slot.second] else [Slot.val v]) ++ lg_sl q := by simp [lg_sl]
  rw [e, List.length_append]
  by_cases hc : v.category = 2 <;> simp [hc]
theorem enL_spec : ∀ (as : List Value) (n i0 : Nat), (lg_sl as).length ≤ n → (enL as n).length = n ∧ ∀ (j : Nat) (v : Value), (enL as n)[j]? = some (some v) → (i0 + j, v) ∈ lv_args i0 as := by
  intro as
  induction as with
  | nil =>
    intro n i0 _
    refine ⟨by simp [enL], fun j v h => ?_⟩
    simp [enL, List.getElem?_replicate] at h
  | cons a r ih =>
    intro n i0 hn
    rw [enL_cons]
    by_cases hc : a.category = 2
    · have h2 : (lg_sl r).length + 2 ≤ n := by rw [lg_len, if_pos hc] at hn; omega
      obtain ⟨h3, h4⟩ := ih (n - 2) (i0 + 2) (by omega)
      rw [if_pos hc]
      refine ⟨by simp only [List.length_cons, h3]; omega, fun j v h => ?_⟩
      cases j with
      | zero => simp at h; subst h; simp [lv_args]
      | succ j =>
        cases j with
        | zero => simp at h
        | succ j =>
          have := h4 j v (by simpa using h)
          simp only [lv_args, hc, if_true]
          refine List.mem_cons_of_mem _ ?_
          rw [show i0 + (j + 1 + 1) = i0 + 2 + j by omega]
          exact this
    · have h2 : (lg_sl r).length + 1 ≤ n := by rw [lg_len, if_neg hc] at hn; omega
      obtain ⟨h3, h4⟩ := ih (n - 1) (i0 + 1) (by omega)
      rw [if_neg hc]
      refine ⟨by simp only [List.length_cons, h3]; omega, fun j v h => ?_⟩
      cases j with
      | zero => simp at h; subst h; simp [lv_args]
      | succ j =>
        have := h4 j v (by simpa using h)
        simp only [lv_args, hc, if_false]
        refine List.mem_cons_of_mem _ ?_
        rw [show i0 + (j + 1) = i0 + 1 + j by omega]
        exact this
theorem lv_args_cV (ad : Nat → Nat) : ∀ (as : List Value) (i : Nat) (j : Nat) (v : Value), (j, v) ∈ lv_args i as → (j, cV ad v) ∈ lv_args i (as.map (cV ad)) := by
  intro as
  induction as with
  | nil => intro i j v h; cases h
  | cons a r ih =>
    intro i j v h
    simp only [lv_args, List.map_cons, cV_cat] at h ⊢
    rcases List.mem_cons.mp h with e | h
    · cases e; exact List.mem_cons_self
    · exact List.mem_cons_of_mem _ (ih _ _ _ h)
theorem lg_sl_cV (ad : Nat → Nat) (as : List Value) : (lg_sl (as.map (cV ad))).length = (lg_sl as).length := by
  induction as with
  | nil => rfl
  | cons a r ih =>
    rw [List.map_cons, lg_len, lg_len, ih, cV_cat]
/-- A METHOD'S CONTRACT out of its run -/
theorem Ctr.of {l : Launch} {d : Nat} {X : List (List Int32)} {g : Sig} {code : List Row} {as : List Value} {hp : AH} {Rq : AH → Option Value → Prop} (hC : Chk g code) (h0 : pcO code 0 = 0) (hlen : (lg_sl as).length ≤ sL g)
    (h : WP l (rmD d (sC g) (sS g)) X g code Rq 0 (enL as (sL g)) [] hp 0 0) : Ctr l d X g as hp Rq := by
  intro D tc ad sz
  refine Met.ofW (cc := sB g) (maxL := sL g) (ret := sR g) hC.2.2.2.2 rfl ?_
  intro p e s m args below meth c s₁ B hml hv
  obtain ⟨rfl, hsz, hP, hD0, hEF⟩ := hv
  have hts := atoms_spec (ws := sgW g) B.pre
  have hts' : ∀ w ∈ TBL, w.before (as.map (cV ad)).toArray s = true := fun w hw => hts w (List.mem_cons_of_mem _ hw)
  have hown : s.vm.findClass (sY g).cls = some m.cls := findClass_of_methodNamed B.named
  have hin : meth.name = (sY g).name := (name_of_methodNamed B.named B.method).1
  have hlocks := B.notSynchronized
  have hx := B.exec
  have hb := B.bytes
  have hr := B.returns
  rw [lg_entry_eq]
  have hl := lv_entry (as.map (cV ad)) (n := sL g) (by rw [lg_sl_cV]; exact hlen)
  generalize (lg_sl (as.map (cV ad)) ++ List.replicate (sL g - (lg_sl (as.map (cV ad))).length) Slot.unset).toArray = ls at hl ⊢
  obtain ⟨e1, e2⟩ := enL_spec as (sL g) 0 hlen
  have hL : LR ad (sL g) (enL as (sL g)) ls := by
    refine ⟨e1, hl.1, hl.2.1, fun j v hj => ?_⟩
    have := lv_args_cV ad as 0 (0 + j) v (e2 j v hj)
    rw [Nat.zero_add] at this
    exact hl.2.2 _ this
  have key := h p e s m (as.map (cV ad)).toArray below meth c D tc ad ad hp.length (va_A (cW ad tc hp) sz) (MQ below (CPost (sC g) D tc ad sz hp Rq) (as.map (cV ad)).toArray s (sC g) (sS g) (va_A (cW ad tc hp) sz)) s.heap [] ls
    ⟨hx, hb, hml, hown, hts', fun z => hin.trans z, hEF, fun q hq => Or.inr (by rw [← hsz]; exact hq)⟩ ?_ ⟨hP, hD0.self, va_S.rf⟩ ⟨fun _ _ => rfl, fun _ => rfl⟩ (Nat.le_refl _) (Nat.zero_le _) (Nat.zero_le _) hL
  · rw [h0] at key
    exact key
  · intro v hp' ad' H locs k n pc ls' hR hW hak hn0 hk hn hrt
    refine W.widen hk hn ?_
    have post : ∀ t : State, t.heap = H → s.WarmedH t.vm → CPost (sC g) D tc ad sz hp Rq (as.map (cV ad)).toArray s (.returned (v.map (cV ad'))) t := fun t ht _ =>
      ⟨⟨v, hp', ad', rfl, hR, hak, hn0, by rw [ht]; exact hW.1, hW.2.1⟩, hW.2.2.F ht⟩
    cases v with
    | none => exact W.vret hx hb (hr.trans hrt.2) post hW.2.2.2.2 hrt.1
    | some w =>
      cases w with
      | int x =>
        obtain ⟨hd, t, ht, hnar⟩ := hrt
        exact W.zret hx hb (hr.trans ht) hnar post hW.2.2.2.2 hd
      | long x => exact W.lret hx hb (hr.trans hrt.2) post hW.2.2.2.2 hrt.1
      | _ => exact hrt.elim
/-- a contract says less -/
theorem Ctr.weak {l : Launch} {d : Nat} {X : List (List Int32)} {g : Sig} {as : List Value} {hp : AH} {R1 R2 : AH → Option Value → Prop} (h : Ctr l d X g as hp R1) (hR : ∀ hp' v, R1 hp' v → R2 hp' v) : Ctr l d X g as hp R2 := by
  intro D tc ad sz p e ha hc hk s m args below hf happ hP hK
  obtain ⟨n, o, h1, h2, h3, ⟨⟨v, hp', ad', g1, g2, g3⟩, hF⟩, hL⟩ := h D tc ad sz p e ha hc hk s m args below hf happ hP hK
  exact ⟨n, o, h1, h2, h3, ⟨⟨v, hp', ad', g1, hR _ _ g2, g3⟩, hF⟩, hL⟩
end
section
-- 17b.look
/-! THE SAME MACHINE OVER A QUICK LOOK-UP OF ROWS (by wip/gen/lookgen.py, out of stp) -/
def stpF (l : Launch) (R : Room) (X : List (List Int32)) (g : Sig) (look : Nat → Option Row) (Q : AH → Option Value → Prop) (P : PP) : PP := fun i ls st hp k n =>
  match look i with
  | none => False
  | some (ins, _, nx, a, b, c, ts, cs) =>
    match ins with
    | .aload_n j => ldA ls j.val (fun v => P nx ls (v :: st) hp k n)
    | .aload j => ldA ls j (fun v => P nx ls (v :: st) hp k n)
    | .iload_n j => ldI ls j.val (fun v => P nx ls (v :: st) hp k n)
    | .iload j => ldI ls j (fun v => P nx ls (v :: st) hp k n)
    | .lload_n j => ldL ls j.val (fun v => P nx ls (v :: st) hp k n)
    | .lload j => ldL ls j (fun v => P nx ls (v :: st) hp k n)
    | .istore_n j => stI ls j.val st (fun ls' r => P nx ls' r hp k n)
    | .istore j => stI ls j st (fun ls' r => P nx ls' r hp k n)
    | .astore_n j => stA ls j.val st (fun ls' r => P nx ls' r hp k n)
    | .astore j => stA ls j st (fun ls' r => P nx ls' r hp k n)
    | .lstore_n j => stL ls j.val st (fun ls' r => P nx ls' r hp k n)
    | .lstore j => stL ls j st (fun ls' r => P nx ls' r hp k n)
    | .iinc j _ => ldI ls j (fun v => match v with
      | .int x => stO ls j (.int (x + Int32.ofInt c)) (fun ls' => P nx ls' st hp k n)
      | _ => False)
    | .iconst _ => P nx ls (.int (Int32.ofInt c) :: st) hp k n
    | .bipush _ => P nx ls (.int (Int32.ofInt c) :: st) hp k n
    | .sipush _ => P nx ls (.int (Int32.ofInt c) :: st) hp k n
    | .lconst _ => P nx ls (.long (Int64.ofInt c) :: st) hp k n
    | .ldc _ => match Nat.beq a 50 with
      | true => P nx ls (.ref (1100 + b) :: st) hp k n
      | false => P nx ls (.int (Int32.ofInt c) :: st) hp k n
    | .ldc_w _ => P nx ls (.int (Int32.ofInt c) :: st) hp k n
    | .ldc2_w _ => P nx ls (.long (Int64.ofInt c) :: st) hp k n
    | .iadd => iB (fun x y => x + y) st (fun r => P nx ls r hp k n)
    | .isub => iB (fun x y => x - y) st (fun r => P nx ls r hp k n)
    | .imul => iB (fun x y => x * y) st (fun r => P nx ls r hp k n)
    | .iand => iB (fun x y => x &&& y) st (fun r => P nx ls r hp k n)
    | .ior => iB (fun x y => x ||| y) st (fun r => P nx ls r hp k n)
    | .ixor => iB (fun x y => x ^^^ y) st (fun r => P nx ls r hp k n)
    | .idiv => iD (fun x y => x / y) st (fun r => P nx ls r hp k n)
    | .irem => iD (fun x y => x - x / y * y) st (fun r => P nx ls r hp k n)
    | .ineg => iU (fun x => -x) st (fun r => P nx ls r hp k n)
    | .ishl => iB (fun x y => x <<< (y &&& 31)) st (fun r => P nx ls r hp k n)
    | .ishr => iB (fun x y => x >>> (y &&& 31)) st (fun r => P nx ls r hp k n)
    | .iushr => iB (fun x y => (x.toUInt32 >>> (y.toUInt32 &&& Int32.toUInt32 31)).toInt32) st (fun r => P nx ls r hp k n)
    | .i2c => iU (fun x => (x.toUInt32 % 65536).toInt32) st (fun r => P nx ls r hp k n)
    | .i2b => iU (fun x => x.toInt8.toInt32) st (fun r => P nx ls r hp k n)
    | .i2s => iU (fun x => x.toInt16.toInt32) st (fun r => P nx ls r hp k n)
    | .i2l => ijU st (fun r => P nx ls r hp k n)
    | .l2i => jiU st (fun r => P nx ls r hp k n)
    | .ladd => jB (fun x y => x + y) st (fun r => P nx ls r hp k n)
    | .lmul => jB (fun x y => x * y) st (fun r => P nx ls r hp k n)
    | .land => jB (fun x y => x &&& y) st (fun r => P nx ls r hp k n)
    | .lor => jB (fun x y => x ||| y) st (fun r => P nx ls r hp k n)
    | .lxor => jB (fun x y => x ^^^ y) st (fun r => P nx ls r hp k n)
    | .ldiv => jD (fun x y => x / y) st (fun r => P nx ls r hp k n)
    | .lrem => jD (fun x y => x - x / y * y) st (fun r => P nx ls r hp k n)
    | .lshl => jS (fun x y => x <<< (y.toInt64 &&& 63)) st (fun r => P nx ls r hp k n)
    | .lshr => jS (fun x y => x >>> (y.toInt64 &&& 63)) st (fun r => P nx ls r hp k n)
    | .lcmp => jC st (fun r => P nx ls r hp k n)
    | .dup => match st with
      | v :: r => v.category = 1 ∧ P nx ls (v :: v :: r) hp k n
      | _ => False
    | .pop => match st with
      | v :: r => v.category = 1 ∧ P nx ls r hp k n
      | _ => False
    | .pop2 => match st with
      | v :: r => v.category = 2 ∧ P nx ls r hp k n
      | _ => False
    | .goto _ => P a ls st hp k n
    | .ifCond .eq _ => izC (fun x => x = 0) st (fun r => P a ls r hp k n) (fun r => P nx ls r hp k n)
    | .ifCond .ne _ => izC (fun x => x = 0) st (fun r => P nx ls r hp k n) (fun r => P a ls r hp k n)
    | .ifCond .lt _ => izC (fun x => x < 0) st (fun r => P a ls r hp k n) (fun r => P nx ls r hp k n)
    | .ifCond .ge _ => izC (fun x => 0 ≤ x) st (fun r => P a ls r hp k n) (fun r => P nx ls r hp k n)
    | .ifCond .gt _ => izC (fun x => 0 < x) st (fun r => P a ls r hp k n) (fun r => P nx ls r hp k n)
    | .ifCond .le _ => izC (fun x => x ≤ 0) st (fun r => P a ls r hp k n) (fun r => P nx ls r hp k n)
    | .if_icmp .eq _ => icC (fun x y => x = y) st (fun r => P a ls r hp k n) (fun r => P nx ls r hp k n)
    | .if_icmp .ne _ => icC (fun x y => x = y) st (fun r => P nx ls r hp k n) (fun r => P a ls r hp k n)
    | .if_icmp .lt _ => icC (fun x y => x < y) st (fun r => P a ls r hp k n) (fun r => P nx ls r hp k n)
    | .if_icmp .ge _ => icC (fun x y => y ≤ x) st (fun r => P a ls r hp k n) (fun r => P nx ls r hp k n)
    | .if_icmp .gt _ => icC (fun x y => y < x) st (fun r => P a ls r hp k n) (fun r => P nx ls r hp k n)
    | .if_icmp .le _ => icC (fun x y => x ≤ y) st (fun r => P a ls r hp k n) (fun r => P nx ls r hp k n)
    | .ifnull _ => rfN st (fun r => P nx ls r hp k n)
    | .ifnonnull _ => rfN st (fun r => P a ls r hp k n)
    | .tableswitch _ lo hi _ => match st with
      | .int x :: r => (x.toInt < lo ∨ hi < x.toInt → P a ls r hp k n) ∧ swT x lo ts (fun t => P t ls r hp k n)
      | _ => False
    | .lookupswitch _ ps => match st with
      | .int x :: r => ((∀ p ∈ ps.toList, ¬ x = Int32.ofInt p.1) → P a ls r hp k n) ∧ swL x ps.toList ts (fun t => P t ls r hp k n)
      | _ => False
    | .arraylength => match st with
      | .ref q :: r => ∃ xs, rowA X hp q = some xs ∧ P nx ls (.int (Int32.ofNat xs.length) :: r) hp k n
      | _ => False
    | .baload => match st with
      | .int j :: .ref q :: r => match bytQ q with
        | some i => vp_in j (lenS.getD i 0) ∧ P nx ls (.int ((bytS.getD i []).getD j.toNatClampNeg 0) :: r) hp k n
        | none => False
      | _ => False
    | .iaload => match st with
      | .int j :: .ref q :: r => ∃ xs, rowI X hp q = some xs ∧ vp_in j xs.length ∧ P nx ls (.int (xs.getD j.toNatClampNeg 0) :: r) hp k n
      | _ => False
    | .iastore => match st with
      | .int x :: .int j :: .ref q :: r => ∃ xs, hp[q]? = some (AI xs) ∧ vp_in j xs.length ∧ P nx ls r (hp.set q (AI (xs.set j.toNatClampNeg x))) k n
      | _ => False
    | .laload => match st with
      | .int j :: .ref q :: r => ∃ xs, hp[q]? = some (AL xs) ∧ vp_in j xs.length ∧ P nx ls (.long (xs.getD j.toNatClampNeg 0) :: r) hp k n
      | _ => False
    | .lastore => match st with
      | .long x :: .int j :: .ref q :: r => ∃ xs, hp[q]? = some (AL xs) ∧ vp_in j xs.length ∧ P nx ls r (hp.set q (AL (xs.set j.toNatClampNeg x))) k n
      | _ => False
    | .getfield _ => match st with
      | .ref q :: r => match Nat.beq a 50 with
        | true => match strQ q with
          | some i => match Nat.beq b 0 with
            | true => P nx ls (.int 0 :: r) hp k n
            | false => P nx ls (.ref (1200 + i) :: r) hp k n
          | none => False
        | false => match hp[q]? with
          | some (.inl (ci, fs)) => match Nat.beq ci a, fs[b]? with
            | true, some v => P nx ls (v :: r) hp k n
            | _, _ => False
          | _ => False
      | _ => False
    | .putfield _ => match st with
      | v :: .ref q :: r => match hp[q]? with
        | some (.inl (ci, fs)) => match Nat.beq ci a with
          | true => putOk ((clTy.getD a tyX0) b) v ∧ seV fs b v (fun fs' => seH hp q (AO ci fs') (fun hp' => P nx ls r hp' k n))
          | false => False
        | _ => False
      | _ => False
    | .getstatic _ => match Nat.beq a 51, Nat.beq a 52 with
      | true, _ => P nx ls (.int 1 :: st) hp k n
      | false, true => P nx ls (.null :: st) hp k n ∧ P nx ls (.ref 1300 :: st) hp k n
      | false, false => P nx ls (.ref 1000 :: st) hp k n
    | .new _ => match vwCl[a]? with
      | some (_, _, N) => (rOkH hp.length hp && (rOkS hp.length st && rOkL hp.length ls)) = true ∧ (k + 1 ≤ R.cells ∧ n + N ≤ R.slots) ∧ hp.length < 1000 ∧ P nx ls (.ref hp.length :: st) (hp ++ [AO a (dfl a N)]) (k + 1) (n + N)
      | none => False
    | .newarray t => match st with
      | .int x :: r => match t with
        | .int => (rOkH hp.length hp && (rOkS hp.length st && rOkL hp.length ls)) = true ∧ (k + 1 ≤ R.cells ∧ n + x.toNatClampNeg ≤ R.slots) ∧ hp.length < 1000 ∧ (¬ x < 0 ∧ x.toNatClampNeg ≤ 10000) ∧ P nx ls (.ref hp.length :: r) (hp ++ [AI (List.replicate x.toNatClampNeg 0)]) (k + 1) (n + x.toNatClampNeg)
        | .long => (rOkH hp.length hp && (rOkS hp.length st && rOkL hp.length ls)) = true ∧ (k + 1 ≤ R.cells ∧ n + x.toNatClampNeg ≤ R.slots) ∧ hp.length < 1000 ∧ (¬ x < 0 ∧ x.toNatClampNeg ≤ 10000) ∧ P nx ls (.ref hp.length :: r) (hp ++ [AL (List.replicate x.toNatClampNeg 0)]) (k + 1) (n + x.toNatClampNeg)
        | _ => False
      | _ => False
    | .invokevirtual _ => popN (sA cs) [] st (fun as r => match as with
      | .ref q :: _ => match Nat.beq a 50 with
        | true => match strQ q, Nat.ble (catN r) 8, Nat.beq (sC cs) 0 with
          | some _, true, true => ∃ (d' : Nat) (Rq : AH → Option Value → Prop), (d' + 1 ≤ R.frames ∧ 8 + (sL cs + 11) + 64 * d' ≤ R.locals ∧ k + sC cs ≤ R.cells ∧ n + sS cs ≤ R.slots) ∧ Ctr l d' X cs as hp Rq ∧ ∀ hp' v, Rq hp' v → P nx ls (v.toList ++ r) hp' (k + sC cs) (n + sS cs)
          | _, _, _ => False
        | false => match hp[q]? with
          | some (.inl (ci, _)) => match Nat.beq ci a, Nat.ble (catN r) 8, (Nat.beq (sC cs) 0 || (rOkS hp.length r && rOkL hp.length ls)) with
            | true, true, true => ∃ (d' : Nat) (Rq : AH → Option Value → Prop), (d' + 1 ≤ R.frames ∧ 8 + (sL cs + 11) + 64 * d' ≤ R.locals ∧ k + sC cs ≤ R.cells ∧ n + sS cs ≤ R.slots) ∧ Ctr l d' X cs as hp Rq ∧ ∀ hp' v, Rq hp' v → P nx ls (v.toList ++ r) hp' (k + sC cs) (n + sS cs)
            | _, _, _ => False
          | _ => False
      | _ => False)
    | .invokestatic _ => match Nat.beq b 7, Nat.beq b 8 with
      | true, _ => match st with
        | .int y :: .int x :: r => (Nat.ble (catN r) 8 = true ∧ 1 ≤ R.frames ∧ 21 ≤ R.locals) ∧ P nx ls (.int (if x < y then y else x) :: r) hp k n
        | _ => False
      | _, true => match st with
        | .int y :: .int x :: r => (Nat.ble (catN r) 8 = true ∧ 1 ≤ R.frames ∧ 21 ≤ R.locals) ∧ P nx ls (.int (if y < x then y else x) :: r) hp k n
        | _ => False
      | false, false => popN (sA cs) [] st (fun as r => match Nat.ble (catN r) 8, (Nat.beq (sC cs) 0 || (rOkS hp.length r && rOkL hp.length ls)) with
        | true, true => ∃ (d' : Nat) (Rq : AH → Option Value → Prop), (d' + 1 ≤ R.frames ∧ 8 + (sL cs + 11) + 64 * d' ≤ R.locals ∧ k + sC cs ≤ R.cells ∧ n + sS cs ≤ R.slots) ∧ Ctr l d' X cs as hp Rq ∧ ∀ hp' v, Rq hp' v → P nx ls (v.toList ++ r) hp' (k + sC cs) (n + sS cs)
        | _, _ => False)
    | .invokespecial _ => match Nat.beq b 9 with
      | true => match st with
        | .ref _ :: r => match Nat.ble (catN r) 8 with
          | true => (1 ≤ R.frames ∧ 20 ≤ R.locals) ∧ P nx ls r hp k n
          | false => False
        | _ => False
      | false => popN (sA cs) [] st (fun as r => match as with
        | .ref _ :: _ => match Nat.ble (catN r) 8, (Nat.beq (sC cs) 0 || (rOkS hp.length r && rOkL hp.length ls)) with
          | true, true => ∃ (d' : Nat) (Rq : AH → Option Value → Prop), (d' + 1 ≤ R.frames ∧ 8 + (sL cs + 11) + 64 * d' ≤ R.locals ∧ k + sC cs ≤ R.cells ∧ n + sS cs ≤ R.slots) ∧ Ctr l d' X cs as hp Rq ∧ ∀ hp' v, Rq hp' v → P nx ls (v.toList ++ r) hp' (k + sC cs) (n + sS cs)
          | _, _ => False
        | _ => False)
    | .ireturn => match st with
      | .int x :: [] => retOk (sR g) x (Q hp (some (.int x)))
      | _ => False
    | .lreturn => match st with
      | .long x :: [] => sR g = some .long ∧ Q hp (some (.long x))
      | _ => False
    | .return_ => match st with
      | [] => sR g = none ∧ Q hp none
      | _ => False
    | _ => False
def runF (l : Launch) (R : Room) (X : List (List Int32)) (g : Sig) (look : Nat → Option Row) (cut : Nat → Bool) (Q : AH → Option Value → Prop) (P : PP) : Nat → PP
  | 0 => P
  | m + 1 => stpF l R X g look Q (fun i ls st hp k n => match cut i with
    | true => P i ls st hp k n
    | false => runF l R X g look cut Q P m i ls st hp k n)
/-- rows by the hundred -/
def lk2 : List (List Row) → Nat → Option Row
  | [], _ => none
  | c :: cs, i => match Nat.blt i 100 with
    | true => c[i]?
    | false => lk2 cs (Nat.sub i 100)
def flR : List (List Row) → List Row
  | [] => []
  | [c] => c
  | c :: d :: cs => c ++ flR (d :: cs)
def okR : List (List Row) → Bool
  | [] => true
  | [c] => Nat.ble c.length 100
  | c :: d :: cs => Nat.beq c.length 100 && okR (d :: cs)
theorem lk2_ok : ∀ {cs : List (List Row)} {i : Nat}, okR cs = true → lk2 cs i = (flR cs)[i]? := by
  intro cs
  induction cs with
  | nil => intro i _; rfl
  | cons c cs ih =>
    intro i h
    cases cs with
    | nil =>
      have h : c.length ≤ 100 := Nat.le_of_ble_eq_true h
      show (match Nat.blt i 100 with | true => c[i]? | false => none) = c[i]?
      cases hb : Nat.blt i 100 with
      | true => rfl
      | false =>
        have : ¬ i < 100 := fun q => by rw [Nat.blt_eq.mpr q] at hb; cases hb
        exact (List.getElem?_eq_none (by omega)).symm
    | cons d cs =>
      have h : (Nat.beq c.length 100 && okR (d :: cs)) = true := h
      rw [Bool.and_eq_true] at h
      have e : c.length = 100 := Nat.eq_of_beq_eq_true h.1
      show (match Nat.blt i 100 with | true => c[i]? | false => lk2 (d :: cs) (i - 100)) = (c ++ flR (d :: cs))[i]?
      cases hb : Nat.blt i 100 with
      | true =>
        have : i < 100 := Nat.blt_eq.mp hb
        exact (List.getElem?_append_left (by omega)).symm
      | false =>
        have : ¬ i < 100 := fun q => by rw [Nat.blt_eq.mpr q] at hb; cases hb
        rw [List.getElem?_append_right (by omega), e]
        exact ih h.2
theorem runF_eq {l : Launch} {R : Room} {X : List (List Int32)} {g : Sig} {code : List Row} {cut : Nat → Bool} {Q : AH → Option Value → Prop} {P : PP} : ∀ f, runF l R X g (fun i => code[i]?) cut Q P f = run l R X g code cut Q P f := by
  intro f
  induction f with
  | zero => rfl
  | succ f ih =>
    unfold runF run
    rw [ih]
    rfl
theorem run_soundF {l : Launch} {R : Room} {X : List (List Int32)} {g : Sig} {code : List Row} {Q : AH → Option Value → Prop} (hC : Chk g code) {look : Nat → Option Row} (hl : ∀ i, look i = code[i]?) (cut : Nat → Bool) (f : Nat) {i : Nat} {al : LO} {st : List Value} {hp : AH} {k n : Nat} (h : runF l R X g look cut Q (WP l R X g code Q) f i al st hp k n) : WP l R X g code Q i al st hp k n := by
  have e : look = fun i => code[i]? := funext hl
  subst e
  rw [runF_eq] at h
  exact run_sound hC cut f h
def lkf_X8_init : Nat → Option Row := lk2 [kX8_init_0, kX8_init_1, kX8_init_2, kX8_init_3, kX8_init_4, kX8_init_5, kX8_init_6]
theorem lkf_X8_init_ok : ∀ i, lkf_X8_init i = kX8_init[i]? := fun i => lk2_ok (cs := [kX8_init_0, kX8_init_1, kX8_init_2, kX8_init_3, kX8_init_4, kX8_init_5, kX8_init_6]) (by decide +kernel)
def lkf_X8_next : Nat → Option Row := lk2 [kX8_next_0, kX8_next_1, kX8_next_2]
theorem lkf_X8_next_ok : ∀ i, lkf_X8_next i = kX8_next[i]? := fun i => lk2_ok (cs := [kX8_next_0, kX8_next_1, kX8_next_2]) (by decide +kernel)
def lkf_X8_eRead : Nat → Option Row := lk2 [kX8_eRead_0, kX8_eRead_1]
theorem lkf_X8_eRead_ok : ∀ i, lkf_X8_eRead i = kX8_eRead[i]? := fun i => lk2_ok (cs := [kX8_eRead_0, kX8_eRead_1]) (by decide +kernel)
def lkf_X8_says : Nat → Option Row := lk2 [kX8_says_0, kX8_says_1]
theorem lkf_X8_says_ok : ∀ i, lkf_X8_says i = kX8_says[i]? := fun i => lk2_ok (cs := [kX8_says_0, kX8_says_1]) (by decide +kernel)
def lkf_X8_habit : Nat → Option Row := lk2 [kX8_habit_0, kX8_habit_1]
theorem lkf_X8_habit_ok : ∀ i, lkf_X8_habit i = kX8_habit[i]? := fun i => lk2_ok (cs := [kX8_habit_0, kX8_habit_1]) (by decide +kernel)
end
section
-- 18.law0
-- ===== end of PART A; then your names; then what follows =====
/-! THE CLAIM OUT OF ONE WALK OF THE LAW'S BODY. Your part is whole_start (and what it stands on); all else here is the same for every law, but numbers. -/
def R_law : String := "SaidTwiceLaw"
def lw_P (b : Addr) (xs : List Int32) (args : Array Value) (s : State) : Prop := args = #[.ref b] ∧ s.IntsAt b xs ∧ xs.length ≤ 3584 ∧ (Jvm.Cond.and given_1 narrow_1).before args s = true
def lw_Q (_ : Array Value) (s : State) (o : Outcome) (t : State) : Prop := o = .returned (some (.int 1)) ∧ Framed s o t [] 600000 7302250
def lw_Z (below : List Frame) (a : Array Value) (s : State) : State → Prop := fun t => ∃ o, t.status = .running ∧ Ended t below o ∧ lw_Q a s o t
/-- the law's own end, with 1 on the stack, nothing written that was there before, its room as the claim has it -/
theorem lw_ret {p : Program} {l : Launch} {e : Env} {s : State} {m : MethodId} {below : List Frame} {meth : Method} {c : Code} {b : Nat} (hx : p.tables.exec = Jvm.exec) (hb : c.code = code) (hr : meth.sig.returnType = ret) (hlocks : meth.locks = false) {pc : Nat} {H : Heap} {ls : Array Slot} (hdg : decode code pc = .ok (.ireturn, 1)) : W p l e room_1 s m #[Value.ref b] below meth c H [] 600000 7302250 (lw_Z below #[Value.ref b] s) (F0 m pc ls [.int 1]) := by
  intro T hT X
  obtain ⟨fs, hret, hrun, hended, hW, hframe⟩ := X.leave (v := some (.int 1)) (hlocks := hlocks) (fun h => by rw [hr] at h; cases h)
  have hmeth' : T.vm.method? m = some meth := X.method'
  refine ⟨T.setFrames fs, ?_, .returned (some (.int 1)), hrun, hended, rfl, ⟨_, rfl⟩, hW, hframe⟩
  jvm_step X.here [X.here.top, hx, hb, hdg, hmeth', hr, ret, narrow_b1]
  (try refine ⟨rfl, ?_⟩); (try refine ⟨rfl, ?_⟩)
  first | (intro acts; rw [hret _ acts rfl rfl rfl]) | rw [hret _ _ rfl rfl rfl]
  exact Steps.refl _
/-- what holds at the law's entry: the machine, the code, the tables' words (any of lw_tbl by 'hts w (by decide +kernel)'), the script of L ints xs at the cell b, what the Statement gives of the start (any of its parts by flat_of_before) -/
def lw_At (p : Program) (s : State) (m : MethodId) (meth : Method) (c : Code) (b L : Nat) (xs : Nat → Int32) : Prop :=
  p.tables.exec = Jvm.exec ∧ c.code = code ∧ meth.sig.returnType = ret ∧ c.maxLocals = 4 ∧ s.vm.findClass R_law = some m.cls ∧ (∀ w ∈ lw_tbl, w.before #[Value.ref b] s = true) ∧ va_X b L xs s s.heap ∧ b < s.heap.size ∧ meth.locks = false ∧ (Jvm.Cond.and given_1 narrow_1).before #[Value.ref b] s = true
end
section
-- 19.start
/-! FROM THE LAW'S ENTRY: the law is run by the abstract machine, too; its script is a row that is only read -/
def soInL : List Int32 := [-1431655766, -858993460, -252645136, -16711936, -65536]
theorem nest_tabs {w : Cond} (h : isNest w = true) {A : Array Value} {U : State} (hw : w.before A U = true) : va_Nw w U := by
  cases w <;> first | exact va_Nw.of rfl hw | (simp [isNest] at h)
set_option maxHeartbeats 4000000 in
set_option maxRecDepth 100000 in
theorem start_of {p : Program} {e : Env} {s : State} {m : MethodId} {below : List Frame} {meth : Method} {c : Code} (l : Launch) {b L : Nat} {xs : Nat → Int32} (hL31 : L < 2 ^ 31) (C0 : lw_At p s m meth c b L xs)
    (h : WP l room_1 [soInL, (List.range L).map xs] sgL_law kL_law (fun _ v => v = some (.int 1)) 0 [some (.ref 1001), none, none, none] [] [] 0 0) :
    W p l e room_1 s m #[Value.ref b] below meth c s.heap [] 0 0 (lw_Z below #[Value.ref b] s) (entryFrame m ([Value.ref b] : List Value).toArray 4) := by
  obtain ⟨hx, hb, hr, hml, hown, hts, hX, hbl, hlocks, hgv⟩ := C0
  have hgf := flat_of_before _ hgv
  have hA : ∀ q : Nat, s.heap.size ≤ q → (fun q : Nat => s.heap.size ≤ q) q := fun _ h => h
  have hbA : ¬ (fun q : Nat => s.heap.size ≤ q) b := Nat.not_le.mpr hbl
  have hAn : ∀ a : Nat, a < s.heap.size → ¬ (fun q : Nat => s.heap.size ≤ q) a := fun a ha => Nat.not_le.mpr ha
  have hts' : ∀ w ∈ TBL, w.before #[Value.ref b] s = true := fun w hw => hts w (List.mem_filter.mp hw).1
  obtain ⟨c0, iS0, k0⟩ := u_known (C := RX0) (T := TX0) (N := 6) (n := 6) hts' iw_X0 (hts (.instantiable RX0 6) (by decide +kernel))
  obtain ⟨c1, iS1, k1⟩ := u_known (C := RX1) (T := TX1) (N := 2) (n := 2) hts' iw_X1 (hts (.instantiable RX1 2) (by decide +kernel))
  obtain ⟨c2, iS2, k2⟩ := u_known (C := RX2) (T := TX2) (N := 4) (n := 4) hts' iw_X2 (hts (.instantiable RX2 4) (by decide +kernel))
  obtain ⟨c3, iS3, k3⟩ := u_known (C := RX3) (T := TX3) (N := 4) (n := 4) hts' iw_X3 (hts (.instantiable RX3 4) (by decide +kernel))
  obtain ⟨c4, iS4, k4⟩ := u_known (C := RX4) (T := TX4) (N := 6) (n := 6) hts' iw_X4 (hts (.instantiable RX4 6) (by decide +kernel))
  obtain ⟨c5, iS5, k5⟩ := u_known (C := RX5) (T := TX5) (N := 4) (n := 4) hts' iw_X5 (hts (.instantiable RX5 4) (by decide +kernel))
  obtain ⟨c6, iS6, k6⟩ := u_known (C := RX6) (T := TX6) (N := 6) (n := 6) hts' iw_X6 (hts (.instantiable RX6 6) (by decide +kernel))
  obtain ⟨c7, iS7, k7⟩ := u_known (C := RX7) (T := TX7) (N := 9) (n := 9) hts' iw_X7 (hts (.instantiable RX7 9) (by decide +kernel))
  obtain ⟨c8, iS8, k8⟩ := u_known (C := RX8) (T := TX8) (N := 37) (n := 37) hts' iw_X8 (hts (.instantiable RX8 37) (by decide +kernel))
  obtain ⟨dC, dI, hKc⟩ : ∃ (dC : Nat → ClassId) (dI : Nat → Nat → Nat), ∀ (k : Nat) (q : vw_C), vwCl[k]? = some q → u_Kn s q.1 q.2.1 q.2.2 (dC k) (dI k) := by
    refine ⟨fun k => [c0, c1, c2, c3, c4, c5, c6, c7, c8].getD k c0, fun k => [iS0, iS1, iS2, iS3, iS4, iS5, iS6, iS7, iS8].getD k iS0, ?_⟩
    intro k q hq
    match k, hq with
    | 0, hq => cases hq; exact k0
    | 1, hq => cases hq; exact k1
    | 2, hq => cases hq; exact k2
    | 3, hq => cases hq; exact k3
    | 4, hq => cases hq; exact k4
    | 5, hq => cases hq; exact k5
    | 6, hq => cases hq; exact k6
    | 7, hq => cases hq; exact k7
    | 8, hq => cases hq; exact k8
    | k + 9, hq => simp [vwCl] at hq
  obtain ⟨tI, kI, cI, hI1, hI2, hI3⟩ := Cond.arrayClass_spec (hts (.arrayClass .int) (by decide +kernel))
  obtain ⟨tL, kL, cL, hL1, hL2, hL3⟩ := Cond.arrayClass_spec (hts (.arrayClass .long) (by decide +kernel))
  have hK : va_K (dC, dI) vwCl (ctys (fun j => if j = 0 then tI else tL)) s := by
    refine ⟨hKc, fun k q hq => ?_⟩
    match k, hq with
    | 0, hq => cases hq; exact ⟨fun n z => ⟨fun k h => (by cases h), kI, hI2, cI, hI3⟩, hI1⟩
    | 1, hq => cases hq; exact ⟨fun n z => ⟨fun k h => (by cases h), kL, hL2, cL, hL3⟩, hL1⟩
    | k + 2, hq => simp [ctys] at hq
  obtain ⟨t, ht, cellT, g1, g2, g3, g4, g5, g6, g7⟩ := va_Tof (ty := .int) (N := 5) (f := fun j => .int (soInL.getD j 0)) (A := fun q : Nat => s.heap.size ≤ q) (by decide) (hgf (.arrayOf (.static "SaidTwice" "SO_IN" "[I") .int) (by decide +kernel))
    (va_eqt (hgf (.eq (.length (.static "SaidTwice" "SO_IN" "[I")) (.int 5)) (by decide +kernel)))
    (fun j hj => by
      match j, hj with
      | 0, _ => exact va_eqt (hgf (.eq (.elem (.static "SaidTwice" "SO_IN" "[I") (.int 0)) (.int (-1431655766))) (by decide +kernel))
      | 1, _ => exact va_eqt (hgf (.eq (.elem (.static "SaidTwice" "SO_IN" "[I") (.int 1)) (.int (-858993460))) (by decide +kernel))
      | 2, _ => exact va_eqt (hgf (.eq (.elem (.static "SaidTwice" "SO_IN" "[I") (.int 2)) (.int (-252645136))) (by decide +kernel))
      | 3, _ => exact va_eqt (hgf (.eq (.elem (.static "SaidTwice" "SO_IN" "[I") (.int 3)) (.int (-16711936))) (by decide +kernel))
      | 4, _ => exact va_eqt (hgf (.eq (.elem (.static "SaidTwice" "SO_IN" "[I") (.int 4)) (.int (-65536))) (by decide +kernel))) hAn
  have hZ : va_Z "SaidTwice" "SO_IN" "[I" (.ref t) (fun q : Nat => s.heap.size ≤ q) s s.heap := va_Zof (hts (.laysStatic "SaidTwice" "SO_IN" "[I") (by decide +kernel)) (hts (.initialized "SaidTwice") (by decide +kernel)) ht hAn
  have htl : t < s.heap.size := (Array.getElem?_eq_some_iff.mp g1).1
  have sN : ∀ i : Nat, i < 7 → lenS.getD i 0 < 2 ^ 31 := by
    intro i hi
    match i, hi with
    | 0, _ => exact (by decide)
    | 1, _ => exact (by decide)
    | 2, _ => exact (by decide)
    | 3, _ => exact (by decide)
    | 4, _ => exact (by decide)
    | 5, _ => exact (by decide)
    | 6, _ => exact (by decide)
    | i + 7, hi => omega
  have sX : ∀ i : Nat, i < 7 → (Cond.exactly ((fun i => Term.string "SaidTwice$Tokens" (sIx.getD i 0)) i) "java/lang/String").before #[Value.ref b] s = true := by
    intro i hi
    match i, hi with
    | 0, _ => exact hgf (.exactly (.string "SaidTwice$Tokens" 61) "java/lang/String") (by decide +kernel)
    | 1, _ => exact hgf (.exactly (.string "SaidTwice$Tokens" 67) "java/lang/String") (by decide +kernel)
    | 2, _ => exact hgf (.exactly (.string "SaidTwice$Tokens" 69) "java/lang/String") (by decide +kernel)
    | 3, _ => exact hgf (.exactly (.string "SaidTwice$Tokens" 71) "java/lang/String") (by decide +kernel)
    | 4, _ => exact hgf (.exactly (.string "SaidTwice$Tokens" 73) "java/lang/String") (by decide +kernel)
    | 5, _ => exact hgf (.exactly (.string "SaidTwice$Tokens" 75) "java/lang/String") (by decide +kernel)
    | 6, _ => exact hgf (.exactly (.string "SaidTwice$Tokens" 77) "java/lang/String") (by decide +kernel)
    | i + 7, hi => omega
  have sCo : ∀ i : Nat, i < 7 → (Cond.eq (.field ((fun i => Term.string "SaidTwice$Tokens" (sIx.getD i 0)) i) "java/lang/String" "coder" "B") (.int 0)).before #[Value.ref b] s = true := by
    intro i hi
    match i, hi with
    | 0, _ => exact hgf (.eq (.field (.string "SaidTwice$Tokens" 61) "java/lang/String" "coder" "B") (.int 0)) (by decide +kernel)
    | 1, _ => exact hgf (.eq (.field (.string "SaidTwice$Tokens" 67) "java/lang/String" "coder" "B") (.int 0)) (by decide +kernel)
    | 2, _ => exact hgf (.eq (.field (.string "SaidTwice$Tokens" 69) "java/lang/String" "coder" "B") (.int 0)) (by decide +kernel)
    | 3, _ => exact hgf (.eq (.field (.string "SaidTwice$Tokens" 71) "java/lang/String" "coder" "B") (.int 0)) (by decide +kernel)
    | 4, _ => exact hgf (.eq (.field (.string "SaidTwice$Tokens" 73) "java/lang/String" "coder" "B") (.int 0)) (by decide +kernel)
    | 5, _ => exact hgf (.eq (.field (.string "SaidTwice$Tokens" 75) "java/lang/String" "coder" "B") (.int 0)) (by decide +kernel)
    | 6, _ => exact hgf (.eq (.field (.string "SaidTwice$Tokens" 77) "java/lang/String" "coder" "B") (.int 0)) (by decide +kernel)
    | i + 7, hi => omega
  have sAr : ∀ i : Nat, i < 7 → (Cond.arrayOf (.field ((fun i => Term.string "SaidTwice$Tokens" (sIx.getD i 0)) i) "java/lang/String" "value" "[B") .byte).before #[Value.ref b] s = true := by
    intro i hi
    match i, hi with
    | 0, _ => exact hgf (.arrayOf (.field (.string "SaidTwice$Tokens" 61) "java/lang/String" "value" "[B") .byte) (by decide +kernel)
    | 1, _ => exact hgf (.arrayOf (.field (.string "SaidTwice$Tokens" 67) "java/lang/String" "value" "[B") .byte) (by decide +kernel)
    | 2, _ => exact hgf (.arrayOf (.field (.string "SaidTwice$Tokens" 69) "java/lang/String" "value" "[B") .byte) (by decide +kernel)
    | 3, _ => exact hgf (.arrayOf (.field (.string "SaidTwice$Tokens" 71) "java/lang/String" "value" "[B") .byte) (by decide +kernel)
    | 4, _ => exact hgf (.arrayOf (.field (.string "SaidTwice$Tokens" 73) "java/lang/String" "value" "[B") .byte) (by decide +kernel)
    | 5, _ => exact hgf (.arrayOf (.field (.string "SaidTwice$Tokens" 75) "java/lang/String" "value" "[B") .byte) (by decide +kernel)
    | 6, _ => exact hgf (.arrayOf (.field (.string "SaidTwice$Tokens" 77) "java/lang/String" "value" "[B") .byte) (by decide +kernel)
    | i + 7, hi => omega
  have sLe : ∀ i : Nat, i < 7 → (Cond.eq (.length (.field ((fun i => Term.string "SaidTwice$Tokens" (sIx.getD i 0)) i) "java/lang/String" "value" "[B")) (.int (Int32.ofNat (lenS.getD i 0)))).before #[Value.ref b] s = true := by
    intro i hi
    match i, hi with
    | 0, _ => exact hgf (.eq (.length (.field (.string "SaidTwice$Tokens" 61) "java/lang/String" "value" "[B")) (.int 3)) (by decide +kernel)
    | 1, _ => exact hgf (.eq (.length (.field (.string "SaidTwice$Tokens" 67) "java/lang/String" "value" "[B")) (.int 4)) (by decide +kernel)
    | 2, _ => exact hgf (.eq (.length (.field (.string "SaidTwice$Tokens" 69) "java/lang/String" "value" "[B")) (.int 5)) (by decide +kernel)
    | 3, _ => exact hgf (.eq (.length (.field (.string "SaidTwice$Tokens" 71) "java/lang/String" "value" "[B")) (.int 5)) (by decide +kernel)
    | 4, _ => exact hgf (.eq (.length (.field (.string "SaidTwice$Tokens" 73) "java/lang/String" "value" "[B")) (.int 2)) (by decide +kernel)
    | 5, _ => exact hgf (.eq (.length (.field (.string "SaidTwice$Tokens" 75) "java/lang/String" "value" "[B")) (.int 3)) (by decide +kernel)
    | 6, _ => exact hgf (.eq (.length (.field (.string "SaidTwice$Tokens" 77) "java/lang/String" "value" "[B")) (.int 3)) (by decide +kernel)
    | i + 7, hi => omega
  have sEl : ∀ i : Nat, i < 7 → ∀ j : Nat, j < lenS.getD i 0 → (Cond.eq (.elem (.field ((fun i => Term.string "SaidTwice$Tokens" (sIx.getD i 0)) i) "java/lang/String" "value" "[B") (.int (Int32.ofNat j))) (.int ((bytS.getD i []).getD j 0))).before #[Value.ref b] s = true := by
    intro i hi j hj
    match i, hi with
    | 0, _ => exact (by
      match j, hj with
      | 0, _ => exact hgf (.eq (.elem (.field (.string "SaidTwice$Tokens" 61) "java/lang/String" "value" "[B") (.int 0)) (.int 119)) (by decide +kernel)
      | 1, _ => exact hgf (.eq (.elem (.field (.string "SaidTwice$Tokens" 61) "java/lang/String" "value" "[B") (.int 1)) (.int 104)) (by decide +kernel)
      | 2, _ => exact hgf (.eq (.elem (.field (.string "SaidTwice$Tokens" 61) "java/lang/String" "value" "[B") (.int 2)) (.int 111)) (by decide +kernel)
      | j + 3, hj => exact absurd hj (by show ¬ j + 3 < 3; omega))
    | 1, _ => exact (by
      match j, hj with
      | 0, _ => exact hgf (.eq (.elem (.field (.string "SaidTwice$Tokens" 67) "java/lang/String" "value" "[B") (.int 0)) (.int 111)) (by decide +kernel)
      | 1, _ => exact hgf (.eq (.elem (.field (.string "SaidTwice$Tokens" 67) "java/lang/String" "value" "[B") (.int 1)) (.int 110)) (by decide +kernel)
      | 2, _ => exact hgf (.eq (.elem (.field (.string "SaidTwice$Tokens" 67) "java/lang/String" "value" "[B") (.int 2)) (.int 99)) (by decide +kernel)
      | 3, _ => exact hgf (.eq (.elem (.field (.string "SaidTwice$Tokens" 67) "java/lang/String" "value" "[B") (.int 3)) (.int 101)) (by decide +kernel)
      | j + 4, hj => exact absurd hj (by show ¬ j + 4 < 4; omega))
    | 2, _ => exact (by
      match j, hj with
      | 0, _ => exact hgf (.eq (.elem (.field (.string "SaidTwice$Tokens" 69) "java/lang/String" "value" "[B") (.int 0)) (.int 116)) (by decide +kernel)
      | 1, _ => exact hgf (.eq (.elem (.field (.string "SaidTwice$Tokens" 69) "java/lang/String" "value" "[B") (.int 1)) (.int 119)) (by decide +kernel)
      | 2, _ => exact hgf (.eq (.elem (.field (.string "SaidTwice$Tokens" 69) "java/lang/String" "value" "[B") (.int 2)) (.int 105)) (by decide +kernel)
      | 3, _ => exact hgf (.eq (.elem (.field (.string "SaidTwice$Tokens" 69) "java/lang/String" "value" "[B") (.int 3)) (.int 99)) (by decide +kernel)
      | 4, _ => exact hgf (.eq (.elem (.field (.string "SaidTwice$Tokens" 69) "java/lang/String" "value" "[B") (.int 4)) (.int 101)) (by decide +kernel)
      | j + 5, hj => exact absurd hj (by show ¬ j + 5 < 5; omega))
    | 3, _ => exact (by
      match j, hj with
      | 0, _ => exact hgf (.eq (.elem (.field (.string "SaidTwice$Tokens" 71) "java/lang/String" "value" "[B") (.int 0)) (.int 99)) (by decide +kernel)
      | 1, _ => exact hgf (.eq (.elem (.field (.string "SaidTwice$Tokens" 71) "java/lang/String" "value" "[B") (.int 1)) (.int 111)) (by decide +kernel)
      | 2, _ => exact hgf (.eq (.elem (.field (.string "SaidTwice$Tokens" 71) "java/lang/String" "value" "[B") (.int 2)) (.int 115)) (by decide +kernel)
      | 3, _ => exact hgf (.eq (.elem (.field (.string "SaidTwice$Tokens" 71) "java/lang/String" "value" "[B") (.int 3)) (.int 116)) (by decide +kernel)
      | 4, _ => exact hgf (.eq (.elem (.field (.string "SaidTwice$Tokens" 71) "java/lang/String" "value" "[B") (.int 4)) (.int 115)) (by decide +kernel)
      | j + 5, hj => exact absurd hj (by show ¬ j + 5 < 5; omega))
    | 4, _ => exact (by
      match j, hj with
      | 0, _ => exact hgf (.eq (.elem (.field (.string "SaidTwice$Tokens" 73) "java/lang/String" "value" "[B") (.int 0)) (.int 111)) (by decide +kernel)
      | 1, _ => exact hgf (.eq (.elem (.field (.string "SaidTwice$Tokens" 73) "java/lang/String" "value" "[B") (.int 1)) (.int 114)) (by decide +kernel)
      | j + 2, hj => exact absurd hj (by show ¬ j + 2 < 2; omega))
    | 5, _ => exact (by
      match j, hj with
      | 0, _ => exact hgf (.eq (.elem (.field (.string "SaidTwice$Tokens" 75) "java/lang/String" "value" "[B") (.int 0)) (.int 97)) (by decide +kernel)
      | 1, _ => exact hgf (.eq (.elem (.field (.string "SaidTwice$Tokens" 75) "java/lang/String" "value" "[B") (.int 1)) (.int 110)) (by decide +kernel)
      | 2, _ => exact hgf (.eq (.elem (.field (.string "SaidTwice$Tokens" 75) "java/lang/String" "value" "[B") (.int 2)) (.int 100)) (by decide +kernel)
      | j + 3, hj => exact absurd hj (by show ¬ j + 3 < 3; omega))
    | 6, _ => exact (by
      match j, hj with
      | 0, _ => exact hgf (.eq (.elem (.field (.string "SaidTwice$Tokens" 77) "java/lang/String" "value" "[B") (.int 0)) (.int 110)) (by decide +kernel)
      | 1, _ => exact hgf (.eq (.elem (.field (.string "SaidTwice$Tokens" 77) "java/lang/String" "value" "[B") (.int 1)) (.int 111)) (by decide +kernel)
      | 2, _ => exact hgf (.eq (.elem (.field (.string "SaidTwice$Tokens" 77) "java/lang/String" "value" "[B") (.int 2)) (.int 116)) (by decide +kernel)
      | j + 3, hj => exact absurd hj (by show ¬ j + 3 < 3; omega))
    | i + 7, hi => omega
  have sNe : ∀ i j : Nat, i < 7 → j < 7 → i ≠ j → (Cond.not (Cond.eq ((fun i => Term.string "SaidTwice$Tokens" (sIx.getD i 0)) i) ((fun i => Term.string "SaidTwice$Tokens" (sIx.getD i 0)) j))).before #[Value.ref b] s = true ∨ (Cond.not (Cond.eq ((fun i => Term.string "SaidTwice$Tokens" (sIx.getD i 0)) j) ((fun i => Term.string "SaidTwice$Tokens" (sIx.getD i 0)) i))).before #[Value.ref b] s = true := by
    intro i j hi hj hij
    match i, hi, j, hj with
    | 0, _, 0, _ => exact absurd rfl hij
    | 0, _, 1, _ => exact Or.inl (hgf (.not (.eq (.string "SaidTwice$Tokens" 61) (.string "SaidTwice$Tokens" 67))) (by decide +kernel))
    | 0, _, 2, _ => exact Or.inl (hgf (.not (.eq (.string "SaidTwice$Tokens" 61) (.string "SaidTwice$Tokens" 69))) (by decide +kernel))
    | 0, _, 3, _ => exact Or.inl (hgf (.not (.eq (.string "SaidTwice$Tokens" 61) (.string "SaidTwice$Tokens" 71))) (by decide +kernel))
    | 0, _, 4, _ => exact Or.inl (hgf (.not (.eq (.string "SaidTwice$Tokens" 61) (.string "SaidTwice$Tokens" 73))) (by decide +kernel))
    | 0, _, 5, _ => exact Or.inl (hgf (.not (.eq (.string "SaidTwice$Tokens" 61) (.string "SaidTwice$Tokens" 75))) (by decide +kernel))
    | 0, _, 6, _ => exact Or.inl (hgf (.not (.eq (.string "SaidTwice$Tokens" 61) (.string "SaidTwice$Tokens" 77))) (by decide +kernel))
    | 1, _, 0, _ => exact Or.inr (hgf (.not (.eq (.string "SaidTwice$Tokens" 61) (.string "SaidTwice$Tokens" 67))) (by decide +kernel))
    | 1, _, 1, _ => exact absurd rfl hij
    | 1, _, 2, _ => exact Or.inl (hgf (.not (.eq (.string "SaidTwice$Tokens" 67) (.string "SaidTwice$Tokens" 69))) (by decide +kernel))
    | 1, _, 3, _ => exact Or.inl (hgf (.not (.eq (.string "SaidTwice$Tokens" 67) (.string "SaidTwice$Tokens" 71))) (by decide +kernel))
    | 1, _, 4, _ => exact Or.inl (hgf (.not (.eq (.string "SaidTwice$Tokens" 67) (.string "SaidTwice$Tokens" 73))) (by decide +kernel))
    | 1, _, 5, _ => exact Or.inl (hgf (.not (.eq (.string "SaidTwice$Tokens" 67) (.string "SaidTwice$Tokens" 75))) (by decide +kernel))
    | 1, _, 6, _ => exact Or.inl (hgf (.not (.eq (.string "SaidTwice$Tokens" 67) (.string "SaidTwice$Tokens" 77))) (by decide +kernel))
    | 2, _, 0, _ => exact Or.inr (hgf (.not (.eq (.string "SaidTwice$Tokens" 61) (.string "SaidTwice$Tokens" 69))) (by decide +kernel))
    | 2, _, 1, _ => exact Or.inr (hgf (.not (.eq (.string "SaidTwice$Tokens" 67) (.string "SaidTwice$Tokens" 69))) (by decide +kernel))
    | 2, _, 2, _ => exact absurd rfl hij
    | 2, _, 3, _ => exact Or.inl (hgf (.not (.eq (.string "SaidTwice$Tokens" 69) (.string "SaidTwice$Tokens" 71))) (by decide +kernel))
    | 2, _, 4, _ => exact Or.inl (hgf (.not (.eq (.string "SaidTwice$Tokens" 69) (.string "SaidTwice$Tokens" 73))) (by decide +kernel))
    | 2, _, 5, _ => exact Or.inl (hgf (.not (.eq (.string "SaidTwice$Tokens" 69) (.string "SaidTwice$Tokens" 75))) (by decide +kernel))
    | 2, _, 6, _ => exact Or.inl (hgf (.not (.eq (.string "SaidTwice$Tokens" 69) (.string "SaidTwice$Tokens" 77))) (by decide +kernel))
    | 3, _, 0, _ => exact Or.inr (hgf (.not (.eq (.string "SaidTwice$Tokens" 61) (.string "SaidTwice$Tokens" 71))) (by decide +kernel))
    | 3, _, 1, _ => exact Or.inr (hgf (.not (.eq (.string "SaidTwice$Tokens" 67) (.string "SaidTwice$Tokens" 71))) (by decide +kernel))
    | 3, _, 2, _ => exact Or.inr (hgf (.not (.eq (.string "SaidTwice$Tokens" 69) (.string "SaidTwice$Tokens" 71))) (by decide +kernel))
    | 3, _, 3, _ => exact absurd rfl hij
    | 3, _, 4, _ => exact Or.inl (hgf (.not (.eq (.string "SaidTwice$Tokens" 71) (.string "SaidTwice$Tokens" 73))) (by decide +kernel))
    | 3, _, 5, _ => exact Or.inl (hgf (.not (.eq (.string "SaidTwice$Tokens" 71) (.string "SaidTwice$Tokens" 75))) (by decide +kernel))
    | 3, _, 6, _ => exact Or.inl (hgf (.not (.eq (.string "SaidTwice$Tokens" 71) (.string "SaidTwice$Tokens" 77))) (by decide +kernel))
    | 4, _, 0, _ => exact Or.inr (hgf (.not (.eq (.string "SaidTwice$Tokens" 61) (.string "SaidTwice$Tokens" 73))) (by decide +kernel))
    | 4, _, 1, _ => exact Or.inr (hgf (.not (.eq (.string "SaidTwice$Tokens" 67) (.string "SaidTwice$Tokens" 73))) (by decide +kernel))
    | 4, _, 2, _ => exact Or.inr (hgf (.not (.eq (.string "SaidTwice$Tokens" 69) (.string "SaidTwice$Tokens" 73))) (by decide +kernel))
    | 4, _, 3, _ => exact Or.inr (hgf (.not (.eq (.string "SaidTwice$Tokens" 71) (.string "SaidTwice$Tokens" 73))) (by decide +kernel))
    | 4, _, 4, _ => exact absurd rfl hij
    | 4, _, 5, _ => exact Or.inl (hgf (.not (.eq (.string "SaidTwice$Tokens" 73) (.string "SaidTwice$Tokens" 75))) (by decide +kernel))
    | 4, _, 6, _ => exact Or.inl (hgf (.not (.eq (.string "SaidTwice$Tokens" 73) (.string "SaidTwice$Tokens" 77))) (by decide +kernel))
    | 5, _, 0, _ => exact Or.inr (hgf (.not (.eq (.string "SaidTwice$Tokens" 61) (.string "SaidTwice$Tokens" 75))) (by decide +kernel))
    | 5, _, 1, _ => exact Or.inr (hgf (.not (.eq (.string "SaidTwice$Tokens" 67) (.string "SaidTwice$Tokens" 75))) (by decide +kernel))
    | 5, _, 2, _ => exact Or.inr (hgf (.not (.eq (.string "SaidTwice$Tokens" 69) (.string "SaidTwice$Tokens" 75))) (by decide +kernel))
    | 5, _, 3, _ => exact Or.inr (hgf (.not (.eq (.string "SaidTwice$Tokens" 71) (.string "SaidTwice$Tokens" 75))) (by decide +kernel))
    | 5, _, 4, _ => exact Or.inr (hgf (.not (.eq (.string "SaidTwice$Tokens" 73) (.string "SaidTwice$Tokens" 75))) (by decide +kernel))
    | 5, _, 5, _ => exact absurd rfl hij
    | 5, _, 6, _ => exact Or.inl (hgf (.not (.eq (.string "SaidTwice$Tokens" 75) (.string "SaidTwice$Tokens" 77))) (by decide +kernel))
    | 6, _, 0, _ => exact Or.inr (hgf (.not (.eq (.string "SaidTwice$Tokens" 61) (.string "SaidTwice$Tokens" 77))) (by decide +kernel))
    | 6, _, 1, _ => exact Or.inr (hgf (.not (.eq (.string "SaidTwice$Tokens" 67) (.string "SaidTwice$Tokens" 77))) (by decide +kernel))
    | 6, _, 2, _ => exact Or.inr (hgf (.not (.eq (.string "SaidTwice$Tokens" 69) (.string "SaidTwice$Tokens" 77))) (by decide +kernel))
    | 6, _, 3, _ => exact Or.inr (hgf (.not (.eq (.string "SaidTwice$Tokens" 71) (.string "SaidTwice$Tokens" 77))) (by decide +kernel))
    | 6, _, 4, _ => exact Or.inr (hgf (.not (.eq (.string "SaidTwice$Tokens" 73) (.string "SaidTwice$Tokens" 77))) (by decide +kernel))
    | 6, _, 5, _ => exact Or.inr (hgf (.not (.eq (.string "SaidTwice$Tokens" 75) (.string "SaidTwice$Tokens" 77))) (by decide +kernel))
    | 6, _, 6, _ => exact absurd rfl hij
    | i + 7, hi, _, _ => omega
    | _, _, j + 7, hj => omega
  obtain ⟨adK, adV, sE, sEv⟩ := vk_Sof (N := 7) (tm := (fun i => Term.string "SaidTwice$Tokens" (sIx.getD i 0))) (len := lenS) (byt := bytS) sN sX sCo sAr sLe sEl sNe hAn
  have hCS : va_Z "java/lang/String" "COMPACT_STRINGS" "Z" (.int 1) (fun q : Nat => s.heap.size ≤ q) s s.heap := va_Zof (hts (.laysStatic "java/lang/String" "COMPACT_STRINGS" "Z") (by decide +kernel)) (hts (.initialized "java/lang/String") (by decide +kernel)) (va_eqt (hgf (.eq (.static "java/lang/String" "COMPACT_STRINGS" "Z") (.int 1)) (by decide +kernel))) hAn
  obtain ⟨q3, hSI⟩ : ∃ q3 : Nat, va_Z "jdk/internal/util/Preconditions" "SIOOBE_FORMATTER" "Ljava/util/function/BiFunction;" .null (fun q : Nat => s.heap.size ≤ q) s s.heap ∨ va_Z "jdk/internal/util/Preconditions" "SIOOBE_FORMATTER" "Ljava/util/function/BiFunction;" (.ref q3) (fun q : Nat => s.heap.size ≤ q) s s.heap := by
    rcases va_Zqof (hts (.laysStatic "jdk/internal/util/Preconditions" "SIOOBE_FORMATTER" "Ljava/util/function/BiFunction;") (by decide +kernel)) (hts (.initialized "jdk/internal/util/Preconditions") (by decide +kernel)) (hgf (.isRef (.static "jdk/internal/util/Preconditions" "SIOOBE_FORMATTER" "Ljava/util/function/BiFunction;")) (by decide +kernel)) hAn with z | ⟨q, z⟩
    · exact ⟨0, Or.inl z⟩
    · exact ⟨q, Or.inr z⟩
  have sR : ∀ (i ix : Nat) (tx : String), sIx[i]? = some ix → sTx[i]? = some tx → vk_R "SaidTwice$Tokens" ix tx (adK i) s := by
    intro i ix tx h1 h2
    have hi : i < 7 := (List.getElem?_eq_some_iff.mp h1).1
    have ev := sEv i hi
    match i, hi with
    | 0, _ =>
      cases h1
      cases h2
      exact vk_R.of (hts (.stringRef "SaidTwice$Tokens" 61 "who") (by decide +kernel)) ev
    | 1, _ =>
      cases h1
      cases h2
      exact vk_R.of (hts (.stringRef "SaidTwice$Tokens" 67 "once") (by decide +kernel)) ev
    | 2, _ =>
      cases h1
      cases h2
      exact vk_R.of (hts (.stringRef "SaidTwice$Tokens" 69 "twice") (by decide +kernel)) ev
    | 3, _ =>
      cases h1
      cases h2
      exact vk_R.of (hts (.stringRef "SaidTwice$Tokens" 71 "costs") (by decide +kernel)) ev
    | 4, _ =>
      cases h1
      cases h2
      exact vk_R.of (hts (.stringRef "SaidTwice$Tokens" 73 "or") (by decide +kernel)) ev
    | 5, _ =>
      cases h1
      cases h2
      exact vk_R.of (hts (.stringRef "SaidTwice$Tokens" 75 "and") (by decide +kernel)) ev
    | 6, _ =>
      cases h1
      cases h2
      exact vk_R.of (hts (.stringRef "SaidTwice$Tokens" 77 "not") (by decide +kernel)) ev
    | i + 7, hi => omega
  obtain ⟨adX, hadX⟩ : ∃ adX : Nat → Nat, adX = fun k => if k = 1000 then t else if 1100 ≤ k ∧ k < 1107 then adK (k - 1100) else if 1200 ≤ k ∧ k < 1207 then adV (k - 1200) else if k = 1300 then q3 else b := ⟨_, rfl⟩
  have aK : ∀ i, i < 7 → adX (1000 + (100 + i)) = adK i := by
    intro i hi
    rw [hadX]
    show (if 1000 + (100 + i) = 1000 then t else if 1100 ≤ 1000 + (100 + i) ∧ 1000 + (100 + i) < 1107 then adK (1000 + (100 + i) - 1100) else _) = _
    rw [if_neg (by omega), if_pos (by omega), show 1000 + (100 + i) - 1100 = i by omega]
  have aV : ∀ i, i < 7 → adX (1000 + (200 + i)) = adV i := by
    intro i hi
    rw [hadX]
    show (if 1000 + (200 + i) = 1000 then t else if 1100 ≤ 1000 + (200 + i) ∧ 1000 + (200 + i) < 1107 then adK (1000 + (200 + i) - 1100) else if 1200 ≤ 1000 + (200 + i) ∧ 1000 + (200 + i) < 1207 then adV (1000 + (200 + i) - 1200) else _) = _
    rw [if_neg (by omega), if_neg (by omega), if_pos (by omega), show 1000 + (200 + i) - 1200 = i by omega]
  have a0 : adX (1000 + 0) = t := by rw [hadX]; rfl
  have a1 : adX (1000 + 1) = b := by rw [hadX]; rfl
  have a1' : adX 1001 = b := a1
  have a3 : adX (1000 + 300) = q3 := by rw [hadX]; rfl
  have hES : EFS (fun j => adX (1000 + j)) (fun q : Nat => s.heap.size ≤ q) s := by
    refine ⟨⟨fun i hi => ?_, fun i j hi hj z => ?_⟩, fun i ix tx h1 h2 => ?_, hCS, ?_⟩
    · have z := sE.1 i hi
      rw [← aK i hi, ← aV i hi] at z
      exact z
    · refine sE.2 i j hi hj ?_
      rw [← aK i hi, ← aK j hj]
      exact z
    · have hi : i < 7 := (List.getElem?_eq_some_iff.mp h1).1
      have z := sR i ix tx h1 h2
      rw [← aK i hi] at z
      exact z
    · rw [← a3] at hSI
      exact hSI
  have hEF : EF [soInL, (List.range L).map xs] (dC, dI) (fun j => if j = 0 then tI else tL) (fun j => adX (1000 + j)) (fun q : Nat => s.heap.size ≤ q) s := by
    refine ⟨hK, fun w hw => nest_tabs (NWL_nest w hw) (hts w (List.mem_filter.mp hw).1), by show va_Z "SaidTwice" "SO_IN" "[I" (.ref (adX (1000 + 0))) _ _ _; rw [a0]; exact hZ, fun j ys hj => ?_, hES⟩
    match j, hj with
    | 0, hj =>
      cases hj
      show roX (adX (1000 + 0)) _ _ _ ∧ adX (1000 + 0) < s.heap.size ∧ ¬ s.heap.size ≤ adX (1000 + 0)
      rw [a0]
      exact ⟨⟨cellT, g1, g2, g3, g4, g5, g6⟩, htl, hAn t htl⟩
    | 1, hj =>
      cases hj
      show roX (adX (1000 + 1)) _ _ _ ∧ adX (1000 + 1) < s.heap.size ∧ ¬ s.heap.size ≤ adX (1000 + 1)
      rw [a1]
      obtain ⟨scr, q1, q2, q3, q4, q5⟩ := hX
      refine ⟨⟨scr, q1, q2, q3, by simp [q4], by simp [q4], fun j hj => ?_⟩, hbl, hbA⟩
      have hj' : j < L := by simpa using hj
      rw [q5 j hj']
      simp [List.getD_eq_getElem?_getD, hj']
    | j + 2, hj => simp at hj
  have hl := lv_entry ([.ref b]) (n := 4) (Nat.le_of_ble_eq_true rfl)
  rw [lg_entry_eq]
  generalize (lg_sl ([.ref b]) ++ List.replicate (4 - (lg_sl ([.ref b])).length) Slot.unset).toArray = ls at hl ⊢
  refine h p e s m #[Value.ref b] below meth c (dC, dI) (fun j => if j = 0 then tI else tL) adX adX 0 (fun q : Nat => s.heap.size ≤ q) (lw_Z below #[Value.ref b] s) s.heap [] ls
    ⟨hx, hb, hml, hown, hts', fun z => absurd z (by decide : ¬ (sY sgL_law).name = "<init>"), hEF, hA⟩ ?_ ⟨fun k q h => by simp [cW] at h, ⟨fun i j p q h => by simp [cW] at h, fun k q h => by simp [cW] at h⟩, va_S.rf⟩ ⟨fun _ _ => rfl, fun _ => rfl⟩ (Nat.le_refl _) (Nat.zero_le _) (Nat.zero_le _) ?_
  · intro v hp ad H locs k n pc ls' hv hW hak hn0 hk hn hrt
    subst hv
    obtain ⟨hd, -⟩ := hrt
    refine va_forget hW.2.2.2.2 (W.widen hk hn ?_)
    exact lw_ret hx hb hr hlocks hd
  · refine ⟨rfl, hl.1, hl.2.1, fun j v hj => ?_⟩
    match j, hj with
    | 0, hj =>
      cases hj
      show ls[0]? = some (.val (.ref (adX 1001)))
      rw [a1']
      exact hl.2.2 (0, .ref b) List.mem_cons_self
    | 1, hj => cases hj
    | 2, hj => cases hj
    | 3, hj => cases hj
    | j + 4, hj => simp at hj
end
