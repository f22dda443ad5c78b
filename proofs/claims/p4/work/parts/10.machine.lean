abbrev PP : Type := Nat → LO → List Value → AH → Nat → Nat → Prop
abbrev PK : Type := List Value → Prop
def iU (f : Int32 → Int32) : List Value → PK → Prop
  | .int x :: r, K => K (.int (f x) :: r)
  | _, _ => False
def iB (f : Int32 → Int32 → Int32) : List Value → PK → Prop
  | .int y :: .int x :: r, K => K (.int (f x y) :: r)
  | _, _ => False
def iD (f : Int32 → Int32 → Int32) : List Value → PK → Prop
  | .int y :: .int x :: r, K => ¬ y = 0 ∧ K (.int (f x y) :: r)
  | _, _ => False
def jB (f : Int64 → Int64 → Int64) : List Value → PK → Prop
  | .long y :: .long x :: r, K => K (.long (f x y) :: r)
  | _, _ => False
def jD (f : Int64 → Int64 → Int64) : List Value → PK → Prop
  | .long y :: .long x :: r, K => ¬ y = 0 ∧ K (.long (f x y) :: r)
  | _, _ => False
def jS (f : Int64 → Int32 → Int64) : List Value → PK → Prop
  | .int y :: .long x :: r, K => K (.long (f x y) :: r)
  | _, _ => False
def jC : List Value → PK → Prop
  | .long y :: .long x :: r, K => K (.int (lg_cmp x y) :: r)
  | _, _ => False
def ijU : List Value → PK → Prop
  | .int x :: r, K => K (.long x.toInt64 :: r)
  | _, _ => False
def jiU : List Value → PK → Prop
  | .long x :: r, K => K (.int x.toInt32 :: r)
  | _, _ => False
def icC (q : Int32 → Int32 → Prop) : List Value → PK → PK → Prop
  | .int y :: .int x :: r, T, F => (q x y → T r) ∧ (¬ q x y → F r)
  | _, _, _ => False
def izC (q : Int32 → Prop) : List Value → PK → PK → Prop
  | .int x :: r, T, F => (q x → T r) ∧ (¬ q x → F r)
  | _, _, _ => False
def rfN : List Value → PK → Prop
  | .ref _ :: r, K => K r
  | _, _ => False
def ldI (ls : LO) (j : Nat) (K : Value → Prop) : Prop := match ls[j]? with
  | some (some (.int x)) => K (.int x)
  | _ => False
def ldL (ls : LO) (j : Nat) (K : Value → Prop) : Prop := match ls[j]? with
  | some (some (.long x)) => K (.long x)
  | _ => False
def ldA (ls : LO) (j : Nat) (K : Value → Prop) : Prop := match ls[j]? with
  | some (some (.ref x)) => K (.ref x)
  | _ => False
def stO : LO → Nat → Value → (LO → Prop) → Prop
  | [], _, _, _ => False
  | _ :: r, 0, v, K => K (some v :: r)
  | x :: r, j + 1, v, K => match j, x with
    | 0, some (.long _) => False
    | 0, some (.double _) => False
    | _, _ => stO r j v (fun r' => K (x :: r'))
def stT : LO → Nat → Value → (LO → Prop) → Prop
  | [], _, _, _ => False
  | _ :: r, 0, v, K => match r with
    | [] => False
    | _ :: r' => K (some v :: none :: r')
  | x :: r, j + 1, v, K => match j, x with
    | 0, some (.long _) => False
    | 0, some (.double _) => False
    | _, _ => stT r j v (fun r' => K (x :: r'))
def stI (ls : LO) (j : Nat) (st : List Value) (K : LO → List Value → Prop) : Prop := match st with
  | .int x :: r => stO ls j (.int x) (fun ls' => K ls' r)
  | _ => False
def stA (ls : LO) (j : Nat) (st : List Value) (K : LO → List Value → Prop) : Prop := match st with
  | .ref x :: r => stO ls j (.ref x) (fun ls' => K ls' r)
  | _ => False
def stL (ls : LO) (j : Nat) (st : List Value) (K : LO → List Value → Prop) : Prop := match st with
  | .long x :: r => stT ls j (.long x) (fun ls' => K ls' r)
  | _ => False
/-- a cell put in place of another -/
def seH : AH → Nat → AC → (AH → Prop) → Prop
  | [], _, _, _ => False
  | _ :: r, 0, c, K => K (c :: r)
  | x :: r, j + 1, c, K => seH r j c (fun r' => K (x :: r'))
def seV : List Value → Nat → Value → (List Value → Prop) → Prop
  | [], _, _, _ => False
  | _ :: r, 0, c, K => K (c :: r)
  | x :: r, j + 1, c, K => seV r j c (fun r' => K (x :: r'))
def popN : Nat → List Value → List Value → (List Value → List Value → Prop) → Prop
  | 0, acc, st, K => K acc st
  | n + 1, acc, v :: st, K => popN n (v :: acc) st K
  | _ + 1, _, [], _ => False
def catN : List Value → Nat
  | [] => 0
  | v :: r => v.category + catN r
def rOk (n : Nat) : Value → Bool
  | .ref k => Nat.blt k n || Nat.ble 1000 k
  | _ => true
def rOkS (n : Nat) (vs : List Value) : Bool := vs.all (rOk n)
def rOkL (n : Nat) (ls : LO) : Bool := ls.all (fun o => match o with | some v => rOk n v | none => true)
def rOkC (n : Nat) : AC → Bool
  | .inl o => rOkS n o.2
  | .inr _ => true
def rOkH (n : Nat) (hp : AH) : Bool := hp.all (rOkC n)
def swT (x : Int32) : Int → List Nat → (Nat → Prop) → Prop
  | _, [], _ => True
  | lo, t :: ts, K => (x = Int32.ofInt lo → K t) ∧ swT x (lo + 1) ts K
def swL (x : Int32) : List (Int × Int) → List Nat → (Nat → Prop) → Prop
  | a :: as, t :: ts, K => (x = Int32.ofInt a.1 → K t) ∧ swL x as ts K
  | _, _, _ => True
def dfl (ci N : Nat) : List Value := (List.range N).map (fun j => defaultValue ((clTy.getD ci tyX0) j))
def putOk (ty : FieldType) (v : Value) : Prop := match ty, v with
  | .int, .int _ => True
  | .boolean, .int x => x = 0 ∨ x = 1
  | .object _, .ref _ => True
  | .array _, .ref _ => True
  | _, _ => False
def retOk (rt : Option FieldType) (x : Int32) (K : Prop) : Prop := match rt with
  | some .int => K
  | some t => narrow t (.int x) = .int x ∧ K
  | none => False
def rmD (d : Nat) (mc ms : Nat) : Room := { frames := d, cells := mc, slots := ms, locals := 64 * d }
def ctys (tc : Nat → Nat) : List (ClassId × FieldType) := [(tc 0, .int), (tc 1, .long)]
def cV (ad : Nat → Nat) : Value → Value
  | .ref k => .ref (ad k)
  | v => v
def cE (ad tc : Nat → Nat) : AC → va_E
  | .inl o => .inr (o.1, o.2.map (cV ad))
  | .inr (.inl xs) => .inl (tc 0, xs.length, .inl (fun j => xs.getD j 0))
  | .inr (.inr xs) => .inl (tc 1, xs.length, .inr (.inl (fun j => xs.getD j 0)))
def cW (ad tc : Nat → Nat) (hp : AH) : va_W := hp.mapIdx (fun k c => (ad k, cE ad tc c))
/-- a row that is only read -/
def roX (a : Nat) (xs : List Int32) (U : State) (H : Heap) : Prop := ∃ cell : Cell, H[a]? = some cell ∧ U.isArrayOf cell .int ∧ cell.vm ≠ .unknown ∧ xs.length ≤ cell.slots.size ∧ cell.slots.size.toInt32 = Int32.ofNat xs.length ∧ ∀ j : Nat, j < xs.length → cell.slots[j]? = some (.int (xs.getD j 0))
/-- the String constants, and what of the library's own statics their methods read -/
def EFS (xa : Nat → Nat) (A : Nat → Prop) (U : State) : Prop :=
  vk_S 7 lenS bytS (fun i => xa (100 + i)) (fun i => xa (200 + i)) A U U.heap ∧ (∀ (i ix : Nat) (tx : String), sIx[i]? = some ix → sTx[i]? = some tx → vk_R "SaidTwice$Tokens" ix tx (xa (100 + i)) U) ∧ va_Z "java/lang/String" "COMPACT_STRINGS" "Z" (.int 1) A U U.heap ∧
    (va_Z "jdk/internal/util/Preconditions" "SIOOBE_FORMATTER" "Ljava/util/function/BiFunction;" .null A U U.heap ∨ va_Z "jdk/internal/util/Preconditions" "SIOOBE_FORMATTER" "Ljava/util/function/BiFunction;" (.ref (xa 300)) A U U.heap)
/-- what stays: classes, nest words, the static row, rows that are only read -/
def EF (X : List (List Int32)) (D : va_G) (tc xa : Nat → Nat) (A : Nat → Prop) (U : State) : Prop :=
  va_K D vwCl (ctys tc) U ∧ (∀ w ∈ NWL, va_Nw w U) ∧ va_Z "SaidTwice" "SO_IN" "[I" (.ref (xa 0)) A U U.heap ∧ (∀ (j : Nat) (xs : List Int32), X[j]? = some xs → roX (xa j) xs U U.heap ∧ xa j < U.heap.size ∧ ¬ A (xa j)) ∧ EFS xa A U
def sgW (g : Sig) : List Cond := Cond.code (sY g) (sB g) (sL g) (sR g) :: TBL
/-- the addresses that were there stay; of a method that makes no cell, all -/
def adK (n : Nat) (mc : Nat) (ad ad' : Nat → Nat) : Prop := (∀ k, k < n ∨ 1000 ≤ k → ad' k = ad k) ∧ (mc = 0 → ad' = ad)
/-- the world before a method -/
def CPre (X : List (List Int32)) (D : va_G) (tc ad : Nat → Nat) (sz : Nat) (hp : AH) : State → Prop := fun U => U.heap.size = sz ∧ va_P D vwCl (cW ad tc hp) U.heap ∧ va_D (fun _ => True) (cW ad tc hp) ∧ EF X D tc (fun j => ad (1000 + j)) (va_A (cW ad tc hp) sz) U
/-- the world behind it -/
def CPost (mc : Nat) (D : va_G) (tc ad : Nat → Nat) (sz : Nat) (hp : AH) (R : AH → Option Value → Prop) : Array Value → State → Outcome → State → Prop :=
  fun _ st oc t => (∃ (v : Option Value) (hp' : AH) (ad' : Nat → Nat), oc = .returned (v.map (cV ad')) ∧ R hp' v ∧ adK hp.length mc ad ad' ∧ hp.length ≤ hp'.length ∧ va_P D vwCl (cW ad' tc hp') t.heap ∧ va_D (va_A (cW ad tc hp) sz) (cW ad' tc hp')) ∧ va_F (va_A (cW ad tc hp) sz) st t
/-- A CONTRACT: over any heap that holds the picture, the method returns, with R of the picture behind it and the answer -/
def Ctr (l : Launch) (d : Nat) (X : List (List Int32)) (g : Sig) (as : List Value) (hp : AH) (R : AH → Option Value → Prop) : Prop :=
  ∀ (D : va_G) (tc ad : Nat → Nat) (sz : Nat), Met l (sY g) (sgW g) (rmD d (sC g) (sS g)) (va_Pc (as.map (cV ad)) (CPre X D tc ad sz hp)) (CPost (sC g) D tc ad sz hp R) (sC g) (sS g) (va_A (cW ad tc hp) sz)
/-- a row of ints: of those that are only read, or of the cells -/
def rowI (X : List (List Int32)) (hp : AH) (q : Nat) : Option (List Int32) := match Nat.ble 1000 q with
  | true => match Nat.ble 1100 q with
    | true => none
    | false => X[q - 1000]?
  | false => match hp[q]? with
    | some (.inr (.inl xs)) => some xs
    | _ => none
/-- a row whose length is asked for: of the String constants', too -/
def rowA (X : List (List Int32)) (hp : AH) (q : Nat) : Option (List Int32) := match rowI X hp q with
  | some xs => some xs
  | none => match bytQ q with
    | some i => some (bytS.getD i [])
    | none => none
theorem rowA_of {X : List (List Int32)} {hp : AH} {q : Nat} {xs : List Int32} (h : rowI X hp q = some xs) : rowA X hp q = some xs := by
  unfold rowA
  rw [h]
theorem rowA_spec {X : List (List Int32)} {hp : AH} {q : Nat} {xs : List Int32} (h : rowA X hp q = some xs) : rowI X hp q = some xs ∨ ∃ i, bytQ q = some i ∧ xs = bytS.getD i [] := by
  unfold rowA at h
  split at h
  · rename_i ys hy
    exact Or.inl (hy.trans h)
  · split at h
    · rename_i i hi
      exact Or.inr ⟨i, hi, (Option.some.inj h).symm⟩
    · cases h
/-- one instruction -/
def stp (l : Launch) (R : Room) (X : List (List Int32)) (g : Sig) (code : List Row) (Q : AH → Option Value → Prop) (P : PP) : PP := fun i ls st hp k n =>
  match code[i]? with
  | none => False
  | some (ins, _, nx, a, b, c, ts, cs) =>
    match ins with
    | .aload_n j => ldA ls j.val (fun v => P nx ls (v :: st) hp k n)
    | .aload j => ldA ls j (fun v => P nx ls (v :: st) hp k n)
    | .iload_n j => ldI ls j.val (fun v => P nx ls (v :: st) hp k n)
    | .iload j => ldI ls j (fun v => P nx ls (v :: st) hp k n)
    | .lload_n j => ldL ls j.val (fun v => P nx ls (v :: st) hp k n)
    | .lload j => ldL ls j (fun v => P nx ls (v :: st) hp k n)
    | .istore_n j => stI ls j.val st (fun ls' r => P nx ls' r hp k n)
    | .istore j => stI ls j st (fun ls' r => P nx ls' r hp k n)
    | .astore_n j => stA ls j.val st (fun ls' r => P nx ls' r hp k n)
    | .astore j => stA ls j st (fun ls' r => P nx ls' r hp k n)
    | .lstore_n j => stL ls j.val st (fun ls' r => P nx ls' r hp k n)
    | .lstore j => stL ls j st (fun ls' r => P nx ls' r hp k n)
    | .iinc j _ => ldI ls j (fun v => match v with
      | .int x => stO ls j (.int (x + Int32.ofInt c)) (fun ls' => P nx ls' st hp k n)
      | _ => False)
    | .iconst _ => P nx ls (.int (Int32.ofInt c) :: st) hp k n
    | .bipush _ => P nx ls (.int (Int32.ofInt c) :: st) hp k n
    | .sipush _ => P nx ls (.int (Int32.ofInt c) :: st) hp k n
    | .lconst _ => P nx ls (.long (Int64.ofInt c) :: st) hp k n
    | .ldc _ => match Nat.beq a 50 with
      | true => P nx ls (.ref (1100 + b) :: st) hp k n
      | false => P nx ls (.int (Int32.ofInt c) :: st) hp k n
    | .ldc_w _ => P nx ls (.int (Int32.ofInt c) :: st) hp k n
    | .ldc2_w _ => P nx ls (.long (Int64.ofInt c) :: st) hp k n
    | .iadd => iB (fun x y => x + y) st (fun r => P nx ls r hp k n)
    | .isub => iB (fun x y => x - y) st (fun r => P nx ls r hp k n)
    | .imul => iB (fun x y => x * y) st (fun r => P nx ls r hp k n)
    | .iand => iB (fun x y => x &&& y) st (fun r => P nx ls r hp k n)
    | .ior => iB (fun x y => x ||| y) st (fun r => P nx ls r hp k n)
    | .ixor => iB (fun x y => x ^^^ y) st (fun r => P nx ls r hp k n)
    | .idiv => iD (fun x y => x / y) st (fun r => P nx ls r hp k n)
    | .irem => iD (fun x y => x - x / y * y) st (fun r => P nx ls r hp k n)
    | .ineg => iU (fun x => -x) st (fun r => P nx ls r hp k n)
    | .ishl => iB (fun x y => x <<< (y &&& 31)) st (fun r => P nx ls r hp k n)
    | .ishr => iB (fun x y => x >>> (y &&& 31)) st (fun r => P nx ls r hp k n)
    | .iushr => iB (fun x y => (x.toUInt32 >>> (y.toUInt32 &&& Int32.toUInt32 31)).toInt32) st (fun r => P nx ls r hp k n)
    | .i2c => iU (fun x => (x.toUInt32 % 65536).toInt32) st (fun r => P nx ls r hp k n)
    | .i2b => iU (fun x => x.toInt8.toInt32) st (fun r => P nx ls r hp k n)
    | .i2s => iU (fun x => x.toInt16.toInt32) st (fun r => P nx ls r hp k n)
    | .i2l => ijU st (fun r => P nx ls r hp k n)
    | .l2i => jiU st (fun r => P nx ls r hp k n)
    | .ladd => jB (fun x y => x + y) st (fun r => P nx ls r hp k n)
    | .lmul => jB (fun x y => x * y) st (fun r => P nx ls r hp k n)
    | .land => jB (fun x y => x &&& y) st (fun r => P nx ls r hp k n)
    | .lor => jB (fun x y => x ||| y) st (fun r => P nx ls r hp k n)
    | .lxor => jB (fun x y => x ^^^ y) st (fun r => P nx ls r hp k n)
    | .ldiv => jD (fun x y => x / y) st (fun r => P nx ls r hp k n)
    | .lrem => jD (fun x y => x - x / y * y) st (fun r => P nx ls r hp k n)
    | .lshl => jS (fun x y => x <<< (y.toInt64 &&& 63)) st (fun r => P nx ls r hp k n)
    | .lshr => jS (fun x y => x >>> (y.toInt64 &&& 63)) st (fun r => P nx ls r hp k n)
    | .lcmp => jC st (fun r => P nx ls r hp k n)
    | .dup => match st with
      | v :: r => v.category = 1 ∧ P nx ls (v :: v :: r) hp k n
      | _ => False
    | .pop => match st with
      | v :: r => v.category = 1 ∧ P nx ls r hp k n
      | _ => False
    | .pop2 => match st with
      | v :: r => v.category = 2 ∧ P nx ls r hp k n
      | _ => False
    | .goto _ => P a ls st hp k n
    | .ifCond .eq _ => izC (fun x => x = 0) st (fun r => P a ls r hp k n) (fun r => P nx ls r hp k n)
    | .ifCond .ne _ => izC (fun x => x = 0) st (fun r => P nx ls r hp k n) (fun r => P a ls r hp k n)
    | .ifCond .lt _ => izC (fun x => x < 0) st (fun r => P a ls r hp k n) (fun r => P nx ls r hp k n)
    | .ifCond .ge _ => izC (fun x => 0 ≤ x) st (fun r => P a ls r hp k n) (fun r => P nx ls r hp k n)
    | .ifCond .gt _ => izC (fun x => 0 < x) st (fun r => P a ls r hp k n) (fun r => P nx ls r hp k n)
    | .ifCond .le _ => izC (fun x => x ≤ 0) st (fun r => P a ls r hp k n) (fun r => P nx ls r hp k n)
    | .if_icmp .eq _ => icC (fun x y => x = y) st (fun r => P a ls r hp k n) (fun r => P nx ls r hp k n)
    | .if_icmp .ne _ => icC (fun x y => x = y) st (fun r => P nx ls r hp k n) (fun r => P a ls r hp k n)
    | .if_icmp .lt _ => icC (fun x y => x < y) st (fun r => P a ls r hp k n) (fun r => P nx ls r hp k n)
    | .if_icmp .ge _ => icC (fun x y => y ≤ x) st (fun r => P a ls r hp k n) (fun r => P nx ls r hp k n)
    | .if_icmp .gt _ => icC (fun x y => y < x) st (fun r => P a ls r hp k n) (fun r => P nx ls r hp k n)
    | .if_icmp .le _ => icC (fun x y => x ≤ y) st (fun r => P a ls r hp k n) (fun r => P nx ls r hp k n)
    | .ifnull _ => rfN st (fun r => P nx ls r hp k n)
    | .ifnonnull _ => rfN st (fun r => P a ls r hp k n)
    | .tableswitch _ lo hi _ => match st with
      | .int x :: r => (x.toInt < lo ∨ hi < x.toInt → P a ls r hp k n) ∧ swT x lo ts (fun t => P t ls r hp k n)
      | _ => False
    | .lookupswitch _ ps => match st with
      | .int x :: r => ((∀ p ∈ ps.toList, ¬ x = Int32.ofInt p.1) → P a ls r hp k n) ∧ swL x ps.toList ts (fun t => P t ls r hp k n)
      | _ => False
    | .arraylength => match st with
      | .ref q :: r => ∃ xs, rowA X hp q = some xs ∧ P nx ls (.int (Int32.ofNat xs.length) :: r) hp k n
      | _ => False
    | .baload => match st with
      | .int j :: .ref q :: r => match bytQ q with
        | some i => vp_in j (lenS.getD i 0) ∧ P nx ls (.int ((bytS.getD i []).getD j.toNatClampNeg 0) :: r) hp k n
        | none => False
      | _ => False
    | .iaload => match st with
      | .int j :: .ref q :: r => ∃ xs, rowI X hp q = some xs ∧ vp_in j xs.length ∧ P nx ls (.int (xs.getD j.toNatClampNeg 0) :: r) hp k n
      | _ => False
    | .iastore => match st with
      | .int x :: .int j :: .ref q :: r => ∃ xs, hp[q]? = some (AI xs) ∧ vp_in j xs.length ∧ P nx ls r (hp.set q (AI (xs.set j.toNatClampNeg x))) k n
      | _ => False
    | .laload => match st with
      | .int j :: .ref q :: r => ∃ xs, hp[q]? = some (AL xs) ∧ vp_in j xs.length ∧ P nx ls (.long (xs.getD j.toNatClampNeg 0) :: r) hp k n
      | _ => False
    | .lastore => match st with
      | .long x :: .int j :: .ref q :: r => ∃ xs, hp[q]? = some (AL xs) ∧ vp_in j xs.length ∧ P nx ls r (hp.set q (AL (xs.set j.toNatClampNeg x))) k n
      | _ => False
    | .getfield _ => match st with
      | .ref q :: r => match Nat.beq a 50 with
        | true => match strQ q with
          | some i => match Nat.beq b 0 with
            | true => P nx ls (.int 0 :: r) hp k n
            | false => P nx ls (.ref (1200 + i) :: r) hp k n
          | none => False
        | false => match hp[q]? with
          | some (.inl (ci, fs)) => match Nat.beq ci a, fs[b]? with
            | true, some v => P nx ls (v :: r) hp k n
            | _, _ => False
          | _ => False
      | _ => False
    | .putfield _ => match st with
      | v :: .ref q :: r => match hp[q]? with
        | some (.inl (ci, fs)) => match Nat.beq ci a with
          | true => putOk ((clTy.getD a tyX0) b) v ∧ seV fs b v (fun fs' => seH hp q (AO ci fs') (fun hp' => P nx ls r hp' k n))
          | false => False
        | _ => False
      | _ => False
    | .getstatic _ => match Nat.beq a 51, Nat.beq a 52 with
      | true, _ => P nx ls (.int 1 :: st) hp k n
      | false, true => P nx ls (.null :: st) hp k n ∧ P nx ls (.ref 1300 :: st) hp k n
      | false, false => P nx ls (.ref 1000 :: st) hp k n
    | .new _ => match vwCl[a]? with
      | some (_, _, N) => (rOkH hp.length hp && (rOkS hp.length st && rOkL hp.length ls)) = true ∧ (k + 1 ≤ R.cells ∧ n + N ≤ R.slots) ∧ hp.length < 1000 ∧ P nx ls (.ref hp.length :: st) (hp ++ [AO a (dfl a N)]) (k + 1) (n + N)
      | none => False
    | .newarray t => match st with
      | .int x :: r => match t with
        | .int => (rOkH hp.length hp && (rOkS hp.length st && rOkL hp.length ls)) = true ∧ (k + 1 ≤ R.cells ∧ n + x.toNatClampNeg ≤ R.slots) ∧ hp.length < 1000 ∧ (¬ x < 0 ∧ x.toNatClampNeg ≤ 10000) ∧ P nx ls (.ref hp.length :: r) (hp ++ [AI (List.replicate x.toNatClampNeg 0)]) (k + 1) (n + x.toNatClampNeg)
        | .long => (rOkH hp.length hp && (rOkS hp.length st && rOkL hp.length ls)) = true ∧ (k + 1 ≤ R.cells ∧ n + x.toNatClampNeg ≤ R.slots) ∧ hp.length < 1000 ∧ (¬ x < 0 ∧ x.toNatClampNeg ≤ 10000) ∧ P nx ls (.ref hp.length :: r) (hp ++ [AL (List.replicate x.toNatClampNeg 0)]) (k + 1) (n + x.toNatClampNeg)
        | _ => False
      | _ => False
    | .invokevirtual _ => popN (sA cs) [] st (fun as r => match as with
      | .ref q :: _ => match Nat.beq a 50 with
        | true => match strQ q, Nat.ble (catN r) 8, Nat.beq (sC cs) 0 with
          | some _, true, true => ∃ (d' : Nat) (Rq : AH → Option Value → Prop), (d' + 1 ≤ R.frames ∧ 8 + (sL cs + 11) + 64 * d' ≤ R.locals ∧ k + sC cs ≤ R.cells ∧ n + sS cs ≤ R.slots) ∧ Ctr l d' X cs as hp Rq ∧ ∀ hp' v, Rq hp' v → P nx ls (v.toList ++ r) hp' (k + sC cs) (n + sS cs)
          | _, _, _ => False
        | false => match hp[q]? with
          | some (.inl (ci, _)) => match Nat.beq ci a, Nat.ble (catN r) 8, (Nat.beq (sC cs) 0 || (rOkS hp.length r && rOkL hp.length ls)) with
            | true, true, true => ∃ (d' : Nat) (Rq : AH → Option Value → Prop), (d' + 1 ≤ R.frames ∧ 8 + (sL cs + 11) + 64 * d' ≤ R.locals ∧ k + sC cs ≤ R.cells ∧ n + sS cs ≤ R.slots) ∧ Ctr l d' X cs as hp Rq ∧ ∀ hp' v, Rq hp' v → P nx ls (v.toList ++ r) hp' (k + sC cs) (n + sS cs)
            | _, _, _ => False
          | _ => False
      | _ => False)
    | .invokestatic _ => match Nat.beq b 7, Nat.beq b 8 with
      | true, _ => match st with
        | .int y :: .int x :: r => (Nat.ble (catN r) 8 = true ∧ 1 ≤ R.frames ∧ 21 ≤ R.locals) ∧ P nx ls (.int (if x < y then y else x) :: r) hp k n
        | _ => False
      | _, true => match st with
        | .int y :: .int x :: r => (Nat.ble (catN r) 8 = true ∧ 1 ≤ R.frames ∧ 21 ≤ R.locals) ∧ P nx ls (.int (if y < x then y else x) :: r) hp k n
        | _ => False
      | false, false => popN (sA cs) [] st (fun as r => match Nat.ble (catN r) 8, (Nat.beq (sC cs) 0 || (rOkS hp.length r && rOkL hp.length ls)) with
        | true, true => ∃ (d' : Nat) (Rq : AH → Option Value → Prop), (d' + 1 ≤ R.frames ∧ 8 + (sL cs + 11) + 64 * d' ≤ R.locals ∧ k + sC cs ≤ R.cells ∧ n + sS cs ≤ R.slots) ∧ Ctr l d' X cs as hp Rq ∧ ∀ hp' v, Rq hp' v → P nx ls (v.toList ++ r) hp' (k + sC cs) (n + sS cs)
        | _, _ => False)
    | .invokespecial _ => match Nat.beq b 9 with
      | true => match st with
        | .ref _ :: r => match Nat.ble (catN r) 8 with
          | true => (1 ≤ R.frames ∧ 20 ≤ R.locals) ∧ P nx ls r hp k n
          | false => False
        | _ => False
      | false => popN (sA cs) [] st (fun as r => match as with
        | .ref _ :: _ => match Nat.ble (catN r) 8, (Nat.beq (sC cs) 0 || (rOkS hp.length r && rOkL hp.length ls)) with
          | true, true => ∃ (d' : Nat) (Rq : AH → Option Value → Prop), (d' + 1 ≤ R.frames ∧ 8 + (sL cs + 11) + 64 * d' ≤ R.locals ∧ k + sC cs ≤ R.cells ∧ n + sS cs ≤ R.slots) ∧ Ctr l d' X cs as hp Rq ∧ ∀ hp' v, Rq hp' v → P nx ls (v.toList ++ r) hp' (k + sC cs) (n + sS cs)
          | _, _ => False
        | _ => False)
    | .ireturn => match st with
      | .int x :: [] => retOk (sR g) x (Q hp (some (.int x)))
      | _ => False
    | .lreturn => match st with
      | .long x :: [] => sR g = some .long ∧ Q hp (some (.long x))
      | _ => False
    | .return_ => match st with
      | [] => sR g = none ∧ Q hp none
      | _ => False
    | _ => False
/-- many instructions, up to the rows that are cut -/
def run (l : Launch) (R : Room) (X : List (List Int32)) (g : Sig) (code : List Row) (cut : Nat → Bool) (Q : AH → Option Value → Prop) (P : PP) : Nat → PP
  | 0 => P
  | m + 1 => stp l R X g code Q (fun i ls st hp k n => match cut i with
    | true => P i ls st hp k n
    | false => run l R X g code cut Q P m i ls st hp k n)
