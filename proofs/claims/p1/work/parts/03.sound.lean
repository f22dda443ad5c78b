/-! WHAT THE ABSTRACT MACHINE REACHES, THE MACHINE REACHES. -/
def pcO (code : List Row) (i : Nat) : Nat := match code[i]? with
  | some r => r.2.1
  | none => 0
def clOk (a b : Nat) : Bool := match vwCl[a]? with
  | some q => Nat.blt b q.2.2
  | none => false
def sgOk (g : Sig) (n : Nat) : Bool := decide ((sY g).cls ≠ "java/lang/invoke/MethodHandle") && decide ((sY g).cls ≠ "java/lang/invoke/VarHandle") && decide ((parseMethodDescriptor (sY g).desc).map (fun d => d.parameters.length) = some n)
def clN (a : Nat) : String := (vwCl.getD a (RX0, TX0, 6)).1
def clF (a b : Nat) : String × String × String × Bool := ((vwCl.getD a (RX0, TX0, 6)).2.1) b
def clS (a : Nat) : Nat := (vwCl.getD a (RX0, TX0, 6)).2.2
/-- the words of a row, out of the tables -/
def needT (own : String) (r : Row) : List Cond := match r with
  | (ins, _, _, a, b, c, _, cs) => match ins with
    | .getfield ix => if c = 0 then [.fieldLink own ix (clN a) (clF a b).2.1 (clF a b).2.2.1] else []
    | .putfield ix => if c = 0 then [.fieldLink own ix (clN a) (clF a b).2.1 (clF a b).2.2.1] else []
    | .getstatic ix => [.fieldLink own ix "SaidTwice" "SO_IN" "[I"]
    | .invokevirtual ix => if c = 0 then [.methodLink own ix (sY cs)] else []
    | .invokestatic ix => if b = 7 then [.methodLink own ix Lib.Math.max.name, .static Lib.Math.max.name, .initialized "java/lang/Math", .code Lib.Math.max.name Lib.Math.max.code 2 (some .int)] else if b = 8 then [.methodLink own ix Lib.Math.min.name, .static Lib.Math.min.name, .initialized "java/lang/Math", .code Lib.Math.min.name Lib.Math.min.code 2 (some .int)] else if c = 0 then [.methodLink own ix (sY cs)] else []
    | .invokespecial ix => if b = 9 then [.methodLink own ix Lib.objectInit, .instanceMethod Lib.objectInit, .code Lib.objectInit ⟨#[0xb1]⟩ 1 none] else if c = 0 then [.methodLink own ix (sY cs)] else []
    | .new ix => [.classLink own ix (clN a), .instantiable (clN a) (clS a), .initialized (clN a)]
    | .newarray t => [.arrayClass (newarray.typeOf t)]
    | .ldc ix => [.constant own ix (Int32.ofInt c)]
    | .ldc_w ix => [.constant own ix (Int32.ofInt c)]
    | .ldc2_w ix => [.constantLong own ix (Int64.ofInt c)]
    | _ => []
/-- the words of a row between nest mates -/
def needN (own : String) (r : Row) : List Cond := match r with
  | (ins, _, _, a, b, c, _, cs) => if c = 1 then (match ins with
    | .getfield ix => [.fieldLinkNest own ix (clN a) (clF a b).2.1 (clF a b).2.2.1 "SaidTwice"]
    | .putfield ix => [.fieldLinkNest own ix (clN a) (clF a b).2.1 (clF a b).2.2.1 "SaidTwice"]
    | .invokevirtual ix => [.methodLinkNest own ix (sY cs) "SaidTwice"]
    | .invokestatic ix => [.methodLinkNest own ix (sY cs) "SaidTwice"]
    | .invokespecial ix => if b = 9 then [] else [.methodLinkNest own ix (sY cs) "SaidTwice"]
    | _ => []) else []
/-- what is said of a method that is called: a static one, an object's, a constructor -/
def SgS (cs : Sig) : Prop := sgOk cs (sA cs) = true ∧ ∀ w ∈ [Cond.static (sY cs), .initialized (sY cs).cls, .code (sY cs) (sB cs) (sL cs) (sR cs)], w ∈ TBL
def SgV (cs : Sig) (a : Nat) : Prop := (sgOk cs (sA cs - 1) && (decide ((sY cs).cls = clN a) && (clOk a 0 && decide (1 ≤ sA cs)))) = true ∧ ∀ w ∈ [Cond.instanceMethod (sY cs), .selects (clN a) (sY cs) (sY cs), .initialized (sY cs).cls, .code (sY cs) (sB cs) (sL cs) (sR cs)], w ∈ TBL
def SgI (cs : Sig) : Prop := (sgOk cs (sA cs - 1) && (decide (1 ≤ sA cs) && (decide ((sY cs).name = "<init>") && decide (sR cs = none)))) = true ∧ ∀ w ∈ [Cond.instanceMethod (sY cs), .initialized (sY cs).cls, .code (sY cs) (sB cs) (sL cs) (sR cs)], w ∈ TBL
def callOk (r : Row) : Prop := match r with
  | (ins, _, _, a, b, _, _, cs) => match ins with
    | .invokestatic _ => match Nat.beq b 7 || Nat.beq b 8 with
      | true => True
      | false => SgS cs
    | .invokevirtual _ => SgV cs a
    | .invokespecial _ => match Nat.beq b 9 with
      | true => True
      | false => SgI cs
    | _ => True
/-- the same of all rows -/
def allC : List Row → Prop
  | [] => True
  | (ins, _, _, a, b, _, _, cs) :: rs => match ins with
    | .invokestatic _ => match Nat.beq b 7 || Nat.beq b 8 with
      | true => allC rs
      | false => SgS cs ∧ allC rs
    | .invokevirtual _ => SgV cs a ∧ allC rs
    | .invokespecial _ => match Nat.beq b 9 with
      | true => allC rs
      | false => SgI cs ∧ allC rs
    | _ => allC rs
theorem allC_mem : ∀ {rs : List Row}, allC rs → ∀ r ∈ rs, callOk r := by
  intro rs
  induction rs with
  | nil => intro _ r hr; cases hr
  | cons q rs ih =>
    intro h r hr
    obtain ⟨ins, pc, nx, a, b, c, ts, cs⟩ := q
    have both : callOk (ins, pc, nx, a, b, c, ts, cs) ∧ allC rs := by
      cases ins
      case invokevirtual ix => exact h
      case invokestatic ix =>
        cases hb : (Nat.beq b 7 || Nat.beq b 8) with
        | true =>
          simp only [allC, hb] at h
          exact ⟨by simp only [callOk, hb], h⟩
        | false =>
          simp only [allC, hb] at h
          exact ⟨by simp only [callOk, hb]; exact h.1, h.2⟩
      case invokespecial ix =>
        cases hb : Nat.beq b 9 with
        | true =>
          simp only [allC, hb] at h
          exact ⟨by simp only [callOk, hb], h⟩
        | false =>
          simp only [allC, hb] at h
          exact ⟨by simp only [callOk, hb]; exact h.1, h.2⟩
      all_goals exact ⟨trivial, h⟩
    rcases List.mem_cons.mp hr with rfl | hr
    · exact both.1
    · exact ih both.2 r hr
/-- what a program decides of a row: pn is where the next one stands -/
def rowP (g : Sig) (code : List Row) (pn : Nat) (r : Row) : Bool := match r with
  | (ins, pc, nx, a, b, c, ts, cs) => match ins with
    | .nop => true
    | .tableswitch d lo hi offs => decide (decode (sB g) pc = .ok (ins, pn - pc)) && (decide ((pc : Int) + d = (pcO code a : Int)) && (decide (offs.toList.map (fun o => (pc : Int) + o) = ts.map (fun t => (pcO code t : Int))) && decide (hi = lo + (ts.length : Int) - 1)))
    | .lookupswitch d ps => decide (decode (sB g) pc = .ok (ins, pn - pc)) && (decide ((pc : Int) + d = (pcO code a : Int)) && (decide (ps.toList.map (fun o => (pc : Int) + o.2) = ts.map (fun t => (pcO code t : Int))) && ((ps.toList.zip (ps.toList.drop 1)).all (fun (a, next) => a.1 < next.1) && ps.toList.all (fun o => decide ((Int32.ofInt o.1).toInt = o.1)))))
    | _ => decide (decode (sB g) pc = .ok (ins, ilen ins)) && (match ins with
      | .ireturn | .lreturn | .return_ => true
      | .goto o => decide ((pc : Int) + o = (pcO code a : Int))
      | .ifCond _ o | .if_icmp _ o | .ifnull o | .ifnonnull o => decide ((pc : Int) + o = (pcO code a : Int)) && decide (pn = pc + 3)
      | .iconst z => decide (Int32.ofInt z = Int32.ofInt c) && decide (pn = pc + 1)
      | .bipush z => decide ((Int8.ofInt z).toInt32 = Int32.ofInt c) && decide (pn = pc + 2)
      | .sipush z => decide ((Int16.ofInt z).toInt32 = Int32.ofInt c) && decide (pn = pc + 3)
      | .lconst z => decide (Int64.ofNat z.val = Int64.ofInt c) && decide (pn = pc + 1)
      | .iinc _ z => decide (Int32.ofInt z = Int32.ofInt c) && decide (pn = pc + 3)
      | .getfield _ => clOk a b && (decide (c = 0 ∨ c = 1) && decide (pn = pc + 3))
      | .putfield _ => clOk a b && (decide (c = 0 ∨ c = 1) && (decide ((clF a b).2.2.2 = false ∨ ((sY g).name = "<init>" ∧ (clF a b).1 = (sY g).cls ∧ c = 0)) && decide (pn = pc + 3)))
      | .invokevirtual _ | .invokestatic _ | .invokespecial _ => decide (c = 0 ∨ c = 1) && decide (pn = pc + 3)
      | .new _ => clOk a 0 && decide (pn = pc + 3)
      | i => decide (pn = pc + ilen i))
def rowB (g : Sig) (code : List Row) (r : Row) : Bool := rowP g code (pcO code r.2.2.1) r
def nxPc : List Row → Nat
  | [] => 0
  | q :: _ => q.2.1
/-- the rows from the i-th on, in one pass -/
def linB (g : Sig) (code : List Row) : Nat → List Row → Bool
  | _, [] => true
  | i, r :: rs => rowP g code (nxPc rs) r && (Nat.beq r.2.2.1 (i + 1) && linB g code (i + 1) rs)
theorem linB_spec {g : Sig} {code : List Row} : ∀ {rs pre : List Row}, code = pre ++ rs → linB g code pre.length rs = true → ∀ r ∈ rs, rowB g code r = true := by
  intro rs
  induction rs with
  | nil => intro pre _ _ r hr; cases hr
  | cons q rs ih =>
    intro pre hc h r hr
    simp only [linB, Bool.and_eq_true] at h
    obtain ⟨h1, h2, h3⟩ := h
    have hnx : q.2.2.1 = pre.length + 1 := Nat.eq_of_beq_eq_true h2
    rcases List.mem_cons.mp hr with rfl | hr
    · unfold rowB
      rw [hnx]
      have : pcO code (pre.length + 1) = (nxPc rs) := by
        unfold pcO
        rw [hc]
        cases rs with
        | nil => simp [nxPc]
        | cons a rs => simp [nxPc]
      rw [this]
      exact h1
    · exact ih (pre := pre ++ [q]) (by simp [hc]) (by simpa using h3) r hr
/-- a stretch of rows, the row behind which stands at pe -/
def linE (g : Sig) (code : List Row) (pe : Nat) : Nat → List Row → Bool
  | _, [] => true
  | i, r :: rs => rowP g code (match rs with | [] => pe | q :: _ => q.2.1) r && (Nat.beq r.2.2.1 (i + 1) && linE g code pe (i + 1) rs)
theorem linB_app {g : Sig} {code : List Row} : ∀ {a b : List Row} {i : Nat}, linE g code (nxPc b) i a = true → linB g code (i + a.length) b = true → linB g code i (a ++ b) = true := by
  intro a
  induction a with
  | nil => intro b i _ h; simpa using h
  | cons x a ih =>
    intro b i h1 h2
    simp only [linE, Bool.and_eq_true] at h1
    obtain ⟨g1, g2, g3⟩ := h1
    simp only [List.cons_append, linB, Bool.and_eq_true]
    refine ⟨?_, g2, ih g3 (by rw [show i + 1 + a.length = i + (x :: a).length by simp; omega]; exact h2)⟩
    cases a with
    | cons y a => exact g1
    | nil => exact g1
/-- what is checked of a method -/
def Chk (g : Sig) (code : List Row) : Prop := linB g code 0 code = true ∧ allC code ∧ (∀ w ∈ code.flatMap (needT (sY g).cls), w ∈ TBL) ∧ (∀ w ∈ code.flatMap (needN (sY g).cls), w ∈ NWL) ∧ plainName (sY g).cls = true
theorem nest_warm {w : Cond} (h : isNest w = true) {s U : State} (hW : s.WarmedH U.vm) (hZ : va_Nw w s) : va_Nw w U := by
  cases w <;> first | exact va_Nw.warmF hW hZ | exact va_Nw.warmM hW hZ | (simp [isNest] at h)
theorem nest_same {w : Cond} (h : isNest w = true) {u U : State} (hv : u.vm = U.vm) (hZ : va_Nw w u) : va_Nw w U := by
  cases w <;> first | exact va_Nw.same rfl hv hZ | (simp [isNest] at h)
theorem cW_get {ad tc : Nat → Nat} {hp : AH} {k : Nat} {c : AC} (h : hp[k]? = some c) : (cW ad tc hp)[k]? = some (ad k, cE ad tc c) := by
  simp [cW, h]
theorem cW_len {ad tc : Nat → Nat} {hp : AH} : (cW ad tc hp).length = hp.length := by simp [cW]
theorem cW_set {ad tc : Nat → Nat} {hp : AH} {k : Nat} {c : AC} : (cW ad tc hp).set k (ad k, cE ad tc c) = cW ad tc (hp.set k c) := by
  apply List.ext_getElem?
  intro j
  by_cases hj : k = j
  · subst hj
    by_cases hl : k < hp.length
    · simp [cW, List.getElem?_set, hl]
    · simp [cW, List.getElem?_set, hl]
  · simp [cW, List.getElem?_set, hj]
theorem cV_cat (ad : Nat → Nat) (v : Value) : (cV ad v).category = v.category := by cases v <;> rfl
theorem rOk_cV {n : Nat} {ad ad' : Nat → Nat} (h : ∀ k, k < n ∨ 1000 ≤ k → ad' k = ad k) : ∀ v, rOk n v = true → cV ad' v = cV ad v := by
  intro v hv
  cases v with
  | ref k =>
    simp only [rOk, Bool.or_eq_true] at hv
    have : k < n ∨ 1000 ≤ k := hv.imp (fun q => Nat.blt_eq.mp q) (fun q => Nat.le_of_ble_eq_true q)
    simp [cV, h k this]
  | _ => rfl
theorem rOkS_map {n : Nat} {ad ad' : Nat → Nat} (h : ∀ k, k < n ∨ 1000 ≤ k → ad' k = ad k) (vs : List Value) (hv : rOkS n vs = true) : vs.map (cV ad') = vs.map (cV ad) := by
  apply List.map_congr_left
  intro v hm
  exact rOk_cV h v (List.all_eq_true.mp hv v hm)
theorem rOkH_cW {n : Nat} {ad ad' tc : Nat → Nat} {hp : AH} (h : ∀ k, k < n ∨ 1000 ≤ k → ad' k = ad k) (hn : hp.length = n) (hv : rOkH n hp = true) : cW ad' tc hp = cW ad tc hp := by
  apply List.ext_getElem?
  intro j
  simp only [cW, List.getElem?_mapIdx]
  cases hj : hp[j]? with
  | none => rfl
  | some c =>
    have hl : j < n := by rw [← hn]; exact (List.getElem?_eq_some_iff.mp hj).1
    have hc := List.all_eq_true.mp hv c (List.mem_of_getElem? hj)
    simp only [Option.map_some, h j (Or.inl hl)]
    cases c with
    | inl o => simp only [cE, rOkS_map h o.2 hc]
    | inr q => cases q <;> rfl
/-- the locals -/
def LR (ad : Nat → Nat) (nL : Nat) (al : LO) (ls : Array Slot) : Prop := al.length = nL ∧ ls.size = nL ∧ lv_wf ls ∧ ∀ (j : Nat) (v : Value), al[j]? = some (some v) → ls[j]? = some (.val (cV ad v))
def asL (ad : Nat → Nat) (al : LO) : List (Nat × Value) := (List.range al.length).filterMap (fun j => match al[j]? with
  | some (some v) => some (j, cV ad v)
  | _ => none)
theorem asL_mem {ad : Nat → Nat} {al : LO} {j : Nat} {v : Value} (h : al[j]? = some (some v)) : (j, cV ad v) ∈ asL ad al := by
  refine List.mem_filterMap.mpr ⟨j, List.mem_range.mpr (List.getElem?_eq_some_iff.mp h).1, ?_⟩
  simp [h]
theorem LR.has {ad : Nat → Nat} {nL : Nat} {al : LO} {ls : Array Slot} (h : LR ad nL al ls) : lv_has ls nL (asL ad al) := by
  obtain ⟨h0, h1, h2, h3⟩ := h
  refine ⟨h1, h2, fun q hq => ?_⟩
  obtain ⟨j, -, hj⟩ := List.mem_filterMap.mp hq
  split at hj
  · rename_i v hv
    cases hj
    exact h3 j v hv
  · cases hj
theorem LR.kept {ad ad' : Nat → Nat} {n nL : Nat} {al : LO} {ls : Array Slot} (h : LR ad nL al ls) (ha : ∀ k, k < n ∨ 1000 ≤ k → ad' k = ad k) (ho : rOkL n al = true) : LR ad' nL al ls := by
  refine ⟨h.1, h.2.1, h.2.2.1, fun j v hv => ?_⟩
  have := List.all_eq_true.mp ho (some v) (List.mem_of_getElem? hv)
  rw [rOk_cV ha v this]
  exact h.2.2.2 j v hv
theorem cat_two {x : Option Value} {w : Value} (h1 : ∀ a, ¬ x = some (.long a)) (h2 : ∀ a, ¬ x = some (.double a)) (hx : x = some w) : ¬ w.category = 2 := by
  subst hx
  cases w with
  | long a => exact absurd rfl (h1 a)
  | double a => exact absurd rfl (h2 a)
  | _ => simp [Value.category]
theorem stO_step {K : LO → Prop} {v : Value} {x : Option Value} {r : LO} {j : Nat} (h : stO (x :: r) (j + 1) v K) : stO r j v (fun r' => K (x :: r')) ∧ (j = 0 → ∀ w, x = some w → ¬ w.category = 2) := by
  unfold stO at h
  split at h
  · exact h.elim
  · exact h.elim
  · rename_i h1 h2
    exact ⟨h, fun hj w hx => cat_two (fun a e => h1 a hj e) (fun a e => h2 a hj e) hx⟩
theorem stO_spec {v : Value} : ∀ {al : LO} {j : Nat} {K : LO → Prop}, stO al j v K → j < al.length ∧ K (al.set j (some v)) ∧ ∀ (q : Nat) (w : Value), q + 1 = j → al[q]? = some (some w) → ¬ w.category = 2 := by
  intro al
  induction al with
  | nil => intro j K h; exact h.elim
  | cons x r ih =>
    intro j K h
    cases j with
    | zero => exact ⟨Nat.succ_pos _, h, fun q w e => by omega⟩
    | succ j =>
      have key := stO_step h
      obtain ⟨h1, h2, h3⟩ := ih key.1
      refine ⟨by simpa using h1, h2, fun q w e hq => ?_⟩
      cases q with
      | zero =>
        simp at hq
        exact key.2 (by omega) w hq
      | succ q => exact h3 q w (by omega) (by simpa using hq)
theorem stT_step {K : LO → Prop} {v : Value} {x : Option Value} {r : LO} {j : Nat} (h : stT (x :: r) (j + 1) v K) : stT r j v (fun r' => K (x :: r')) ∧ (j = 0 → ∀ w, x = some w → ¬ w.category = 2) := by
  unfold stT at h
  split at h
  · exact h.elim
  · exact h.elim
  · rename_i h1 h2
    exact ⟨h, fun hj w hx => cat_two (fun a e => h1 a hj e) (fun a e => h2 a hj e) hx⟩
theorem stT_spec {v : Value} : ∀ {al : LO} {j : Nat} {K : LO → Prop}, stT al j v K → j + 1 < al.length ∧ K ((al.set j (some v)).set (j + 1) none) ∧ ∀ (q : Nat) (w : Value), q + 1 = j → al[q]? = some (some w) → ¬ w.category = 2 := by
  intro al
  induction al with
  | nil => intro j K h; exact h.elim
  | cons x r ih =>
    intro j K h
    cases j with
    | zero =>
      cases r with
      | nil => exact h.elim
      | cons y r => exact ⟨by simp, h, fun q w e => by omega⟩
    | succ j =>
      have key := stT_step h
      obtain ⟨h1, h2, h3⟩ := ih key.1
      refine ⟨by simp only [List.length_cons]; omega, h2, fun q w e hq => ?_⟩
      cases q with
      | zero =>
        simp at hq
        exact key.2 (by omega) w hq
      | succ q => exact h3 q w (by omega) (by simpa using hq)
theorem seH_spec {c : AC} : ∀ {hp : AH} {j : Nat} {K : AH → Prop}, seH hp j c K → j < hp.length ∧ K (hp.set j c) := by
  intro hp
  induction hp with
  | nil => intro j K h; exact h.elim
  | cons x r ih =>
    intro j K h
    cases j with
    | zero => exact ⟨Nat.succ_pos _, h⟩
    | succ j =>
      obtain ⟨h1, h2⟩ := ih h
      exact ⟨by simpa using h1, h2⟩
theorem seV_spec {c : Value} : ∀ {hp : List Value} {j : Nat} {K : List Value → Prop}, seV hp j c K → j < hp.length ∧ K (hp.set j c) := by
  intro hp
  induction hp with
  | nil => intro j K h; exact h.elim
  | cons x r ih =>
    intro j K h
    cases j with
    | zero => exact ⟨Nat.succ_pos _, h⟩
    | succ j =>
      obtain ⟨h1, h2⟩ := ih h
      exact ⟨by simpa using h1, h2⟩
theorem popN_spec : ∀ {n : Nat} {acc st : List Value} {K : List Value → List Value → Prop}, popN n acc st K → ∃ as r, as.length = n ∧ st = as.reverse ++ r ∧ K (as ++ acc) r := by
  intro n
  induction n with
  | zero => intro acc st K h; exact ⟨[], st, rfl, rfl, h⟩
  | succ n ih =>
    intro acc st K h
    cases st with
    | nil => exact h.elim
    | cons v st =>
      obtain ⟨as, r, h1, h2, h3⟩ := ih h
      refine ⟨as ++ [v], r, by simp [h1], by simp [h2], by simpa using h3⟩
theorem catN_sum (ad : Nat → Nat) (vs : List Value) : ((vs.map (cV ad)).map fun v => v.category).sum = catN vs := by
  induction vs with
  | nil => rfl
  | cons v r ih => simp only [List.map_cons, List.sum_cons, cV_cat, catN, ih]
/-- stores to the locals -/
theorem LR.st1 {ad : Nat → Nat} {nL i : Nat} {al : LO} {v : Value} {ls' : Array Slot} (h0 : al.length = nL) (hi : i < al.length) (hq : ∀ (q : Nat) (w : Value), q + 1 = i → al[q]? = some (some w) → ¬ w.category = 2)
    (h : lv_has ls' nL ((i, cV ad v) :: (asL ad al).filter (fun q => !(q.1 == i) && !(q.1 + 1 == i && q.2.category == 2)))) : LR ad nL (al.set i (some v)) ls' := by
  refine ⟨by simp [h0], h.1, h.2.1, fun j w hj => ?_⟩
  by_cases e : j = i
  · subst e
    rw [List.getElem?_set_self hi] at hj
    cases hj
    exact h.2.2 _ List.mem_cons_self
  · rw [List.getElem?_set_ne (fun q => e q.symm)] at hj
    refine h.2.2 (j, cV ad w) (List.mem_cons_of_mem _ (List.mem_filter.mpr ⟨asL_mem hj, ?_⟩))
    simp only [Bool.and_eq_true, Bool.not_eq_true', beq_eq_false_iff_ne, ne_eq, Bool.and_eq_false_iff]
    refine ⟨e, ?_⟩
    by_cases e2 : j + 1 = i
    · exact Or.inr (by rw [cV_cat]; exact hq j w e2 hj)
    · exact Or.inl e2
theorem LR.st2 {ad : Nat → Nat} {nL i : Nat} {al : LO} {v : Value} {ls' : Array Slot} (h0 : al.length = nL) (hi : i + 1 < al.length) (hq : ∀ (q : Nat) (w : Value), q + 1 = i → al[q]? = some (some w) → ¬ w.category = 2)
    (h : lv_has ls' nL ((i, cV ad v) :: (asL ad al).filter (fun q => !(q.1 == i) && (!(q.1 == i + 1) && !(q.1 + 1 == i && q.2.category == 2))))) : LR ad nL ((al.set i (some v)).set (i + 1) none) ls' := by
  refine ⟨by simp [h0], h.1, h.2.1, fun j w hj => ?_⟩
  by_cases e1 : j = i + 1
  · subst e1
    rw [List.getElem?_set_self (by simpa using hi)] at hj
    cases hj
  rw [List.getElem?_set_ne (fun q => e1 q.symm)] at hj
  by_cases e : j = i
  · subst e
    rw [List.getElem?_set_self (by omega)] at hj
    cases hj
    exact h.2.2 _ List.mem_cons_self
  · rw [List.getElem?_set_ne (fun q => e q.symm)] at hj
    refine h.2.2 (j, cV ad w) (List.mem_cons_of_mem _ (List.mem_filter.mpr ⟨asL_mem hj, ?_⟩))
    simp only [Bool.and_eq_true, Bool.not_eq_true', beq_eq_false_iff_ne, ne_eq, Bool.and_eq_false_iff]
    refine ⟨e, e1, ?_⟩
    by_cases e2 : j + 1 = i
    · exact Or.inr (by rw [cV_cat]; exact hq j w e2 hj)
    · exact Or.inl e2
