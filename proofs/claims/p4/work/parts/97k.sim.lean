/-! THE READERS ALIKE: rule by rule -/
section SIMR
variable {tp tq : List Int32} {t : Nat}
/-- how a sign binds, by the class's sort -/
def opk (x : Int32) : Int32 := if x = 7 then Int32.ofInt 1 else if x = 8 then Int32.ofInt 2 else if x = 60 then Int32.ofInt 4 else if x = 61 then Int32.ofInt 4 else if x = 43 then Int32.ofInt 5 else if x = 45 then Int32.ofInt 5 else if x = 42 then Int32.ofInt 6 else Int32.ofInt 0
def sgn (x : Int32) : Int32 := if x = 7 then Int32.ofInt 11 else if x = 8 then Int32.ofInt 12 else if x = 60 then Int32.ofInt 14 else if x = 61 then Int32.ofInt 15 else if x = 43 then Int32.ofInt 16 else if x = 45 then Int32.ofInt 17 else if x = 42 then Int32.ofInt 18 else Int32.ofInt (-1)
/-- a code of the class, as the reference's -/
def gm (x : Int32 × Int32) : Int32 := if x.1 = 2 then Int32.ofInt 100000 + x.2 else if x.1 = 3 then x.2 else if x.1 = 9 then Int32.ofInt 13 else if x.1 = 10 then Int32.ofInt 19 else sgn x.1
def TopLt (r : Int32) (hs : List Int32) : Prop := ∀ s q, hs = s :: q → rkF s < r
theorem TopLt.mono {r r' : Int32} {hs : List Int32} (h : TopLt r hs) (hr : r ≤ r') : TopLt r' hs := fun s q e => Int32.lt_of_lt_of_le (h s q e) hr
theorem TopLt.cons {r o : Int32} {hs : List Int32} (h : rkF o < r) : TopLt r (o :: hs) := fun s q e => by cases e; exact h
theorem unw_top {r : Int32} {hs : List Int32} (h : TopLt r hs) (op : Int32) (oc : List Int32) : unwF r hs op oc = (hs, op, oc) := by
  cases hs with
  | nil => rfl
  | cons s q => rw [unwF, if_pos (h s q rfl)]
theorem unw_unw {r r' : Int32} (hr : r ≤ r') : ∀ (hs : List Int32) (op : Int32) (oc : List Int32), unwF r (unwF r' hs op oc).1 (unwF r' hs op oc).2.1 (unwF r' hs op oc).2.2 = unwF r hs op oc
  | [], _, _ => rfl
  | s :: hs, op, oc => by
    rw [unwF]
    by_cases q : rkF s < r'
    · rw [if_pos q]
    · rw [if_neg q, unw_unw hr hs, unwF, if_neg (fun z => q (Int32.lt_of_lt_of_le z hr))]
theorem unw_via {r r' : Int32} {P : PT} {hs : List Int32} {op : Int32} {oc : List Int32} (hr : r ≤ r') (h : unwF r' P.1 P.2.1 P.2.2 = (hs, op, oc)) : unwF r P.1 P.2.1 P.2.2 = unwF r hs op oc := by
  have := unw_unw hr P.1 P.2.1 P.2.2
  rw [h] at this
  exact this.symm
/-- the reference's reader -/
abbrev eR (tq : List Int32) (t m : Nat) (wa br : Bool) (a : Nat) (P : PT) := erF WS tq t m wa br a P
/-- what may stand behind a rule -/
def Ex (r x : Int32) (P : PT) : Prop := opk x < r ∨ (opk x = Int32.ofInt 4 ∧ r ≤ Int32.ofInt 4 ∧ tp4 (unwF (Int32.ofInt 5) P.1 P.2.1 P.2.2).1 = true)
/-- a code that the class writes -/
def CodeOk (x : Int32 × Int32) : Prop := (x.1 = 2 ∧ Int32.ofInt 100000 ≤ Int32.ofInt 100000 + x.2) ∨ (x.1 = 3 ∧ Int32.ofInt 0 ≤ x.2 ∧ x.2 < Int32.ofInt 6) ∨ x.1 = 9 ∨ x.1 = 10 ∨ ¬ opk x.1 = Int32.ofInt 0
def Vd (c : List (Int32 × Int32)) : Prop := ∀ x, x ∈ c → CodeOk x
theorem Vd.app {a b : List (Int32 × Int32)} (h : Vd a) (h2 : Vd b) : Vd (a ++ b) := fun x hx => (List.mem_append.mp hx).elim (h x) (h2 x)
theorem Vd.one {x : Int32 × Int32} (h : CodeOk x) : Vd [x] := fun y hy => by rw [List.mem_singleton.mp hy]; exact h
/-- a rule was read: the class stands at a', its codes are c more -/
def Went (tp : List Int32) (t : Nat) (p : PS) (a : Nat) (q : PS) (a' m' : Nat) (c : List (Int32 × Int32)) : Prop := a < a' ∧ a' ≤ t ∧ q = (lexF tp t a', p.2 ++ c) ∧ c.length ≤ a' - a ∧ t - a' < m' ∧ Vd c
def Good (tp tq : List Int32) (t : Nat) (r : Int32) (p : PS) (a m : Nat) (br : Bool) (hs : List Int32) (op : Int32) (oc : List Int32) (q : PS) : Prop :=
  ∃ a' m' br' P' c, Went tp t p a q a' m' c ∧ eR tq t m true br a (hs, op, oc) = eR tq t m' false br' a' P' ∧ unwF r P'.1 P'.2.1 P'.2.2 = unwF r hs op (oc ++ c.map gm) ∧ Ex r (srt q) P'
def Bad (tq : List Int32) (t a m : Nat) (br : Bool) (P : PT) (q : PS) : Prop := (eR tq t m true br a P).1 = false ∧ (eR tq t m true br a P).2.1.1 = q.1.1
/-- where a rule begins -/
def At (tp : List Int32) (t : Nat) (p : PS) (a m : Nat) : Prop := p.1 = lexF tp t a ∧ a ≤ t ∧ p.2.length ≤ a ∧ t - a < m
def Sim (tp tq : List Int32) (t : Nat) (r r2 : Int32) (n : Nat) (f : GF) : Prop := ∀ p a m br hs op oc, At tp t p a m → TopLt r2 hs → op = nI (5 - n) → (if r ≤ Int32.ofInt 3 then br = true else (srt p = 9 → br = false)) →
  if (f p).1 = true then Good tp tq t r p a m br hs op oc (f p).2 else Bad tq t a m br (hs, op, oc) (f p).2
/-- ones: all that binds so is unwound at once -/
def SimO (tp tq : List Int32) (t : Nat) (n : Nat) (f : GF) : Prop := ∀ p a m br hs op oc, At tp t p a m → op = nI (5 - n) → (srt p = 9 → br = false) →
  if (f p).1 = true then (∃ a' m' br' c, Went tp t p a (f p).2 a' m' c ∧ eR tq t m true br a (hs, op, oc) = eR tq t m' false br' a' (unwF (Int32.ofInt 7) hs op (oc ++ c.map gm))) else Bad tq t a m br (hs, op, oc) (f p).2
/-- the tapes are alike -/
def Lex (tp tq : List Int32) (t : Nat) : Prop := (∀ j, j < t → tp.getD j 0 = tq.getD j 0) ∧ t ≤ 160
theorem TR.sg {s v tk w : Int32} (h : TR s v tk w) : sgF tk = sgn s := by
  rcases h with ⟨rfl, rfl⟩ | ⟨rfl, rfl⟩ | ⟨rfl, rfl, -⟩ | ⟨rfl, rfl, -⟩ | ⟨h, rfl, -⟩ | ⟨rfl, rfl⟩ | ⟨rfl, rfl⟩ | ⟨rfl, rfl⟩ | ⟨rfl, h⟩
  · decide
  · decide
  · decide
  · decide
  · rcases h with rfl | rfl | rfl <;> decide
  · decide
  · decide
  · decide
  · unfold sgC at h
    simp only [Bool.or_eq_true, beq_iff_eq] at h
    rcases h with ((((((h | h) | h) | h) | h) | h) | h) | h <;> subst h <;> decide
theorem TR.num {s v tk w : Int32} (h : TR s v tk w) : (tk = 1 ↔ s = 2) ∧ (tk = 2 ↔ s = 3) ∧ (tk = 6 ↔ s = 9) ∧ (tk = 45 ↔ s = 45) ∧ (tk = 40 ↔ s = 40) ∧ (tk = 59 ↔ s = 59) ∧ (tk = 41 ↔ s = 41) ∧ (tk = 0 ↔ s = 0) ∧ (tk = 3 ↔ (s = 4 ∨ s = 5 ∨ s = 6)) := by
  rcases h with ⟨rfl, rfl⟩ | ⟨rfl, rfl⟩ | ⟨rfl, rfl, -⟩ | ⟨rfl, rfl, -⟩ | ⟨h, rfl, -⟩ | ⟨rfl, rfl⟩ | ⟨rfl, rfl⟩ | ⟨rfl, rfl⟩ | ⟨rfl, h⟩
  · decide
  · decide
  · decide
  · decide
  · rcases h with rfl | rfl | rfl <;> decide
  · decide
  · decide
  · decide
  · unfold sgC at h
    simp only [Bool.or_eq_true, beq_iff_eq] at h
    rcases h with ((((((h | h) | h) | h) | h) | h) | h) | h <;> subst h <;> decide
theorem TR.val {s v tk w : Int32} (h : TR s v tk w) (hs : s = 2 ∨ s = 3) : w = v := by
  rcases h with ⟨rfl, rfl⟩ | ⟨rfl, rfl⟩ | ⟨rfl, rfl, h⟩ | ⟨rfl, rfl, h⟩ | ⟨h, rfl, -⟩ | ⟨rfl, rfl⟩ | ⟨rfl, rfl⟩ | ⟨rfl, rfl⟩ | ⟨rfl, h⟩
  · exact absurd hs (by decide)
  · exact absurd hs (by decide)
  · exact h
  · exact h
  · rcases h with rfl | rfl | rfl <;> exact absurd hs (by decide)
  · exact absurd hs (by decide)
  · exact absurd hs (by decide)
  · exact absurd hs (by decide)
  · rcases hs with rfl | rfl <;> exact absurd h (by decide)
theorem TR.key {s v tk w : Int32} (h : TR s v tk w) (hs : s = 4 ∨ s = 5 ∨ s = 6) : tk = 3 ∧ w = s - 4 := by
  have h3 := h.num.2.2.2.2.2.2.2.2.mpr hs
  rcases h with ⟨rfl, rfl⟩ | ⟨rfl, rfl⟩ | ⟨rfl, rfl, h⟩ | ⟨rfl, rfl, h⟩ | ⟨h, rfl, hw⟩ | ⟨rfl, rfl⟩ | ⟨rfl, rfl⟩ | ⟨rfl, rfl⟩ | ⟨rfl, h⟩
  · exact absurd h3 (by decide)
  · exact absurd h3 (by decide)
  · exact absurd h3 (by decide)
  · exact absurd h3 (by decide)
  · exact ⟨rfl, hw⟩
  · exact absurd h3 (by decide)
  · exact absurd h3 (by decide)
  · exact absurd h3 (by decide)
  · subst h3; exact absurd h (by decide)
/-- one token of the reference -/
theorem eR_step {m a : Nat} (hm : t - a < m) (wa br : Bool) (P : PT) : ∃ m1, m = m1 + 1 ∧ eR tq t m wa br a P = match stE wa br (nxtF WS tq t a).2.2.1 (nxtF WS tq t a).2.2.2 P with
    | .inl (b, q) => (b, nxtF WS tq t a, q)
    | .inr (wa', br', q) => eR tq t m1 wa' br' (nxtF WS tq t a).2.1 q := by
  obtain ⟨m1, rfl⟩ : ∃ m1, m = m1 + 1 := ⟨m - 1, by omega⟩
  exact ⟨m1, rfl, rfl⟩
/-- a token that is one, passed by both -/
theorem tok (hx : Lex tp tq t) {a : Nat} (ha : a ≤ t) : TR (lexF tp t a).2.2.1 (lexF tp t a).2.2.2 (nxtF WS tq t a).2.2.1 (nxtF WS tq t a).2.2.2 ∧ (nxtF WS tq t a).1 = (lexF tp t a).1 ∧ (nxtF WS tq t a).2.1 = (lexF tp t a).2.1 ∧ (lexF tp t a).2.1 ≤ t ∧ (¬ (lexF tp t a).2.2.1 = 0 → a < (lexF tp t a).2.1) := by
  obtain ⟨h1, h2, h3⟩ := lex_al hx.1 ha hx.2
  obtain ⟨n1, n2, n3, n4⟩ := nxt_spec WS tq ha
  refine ⟨h3, h1, h2, by rw [← h2]; exact n1, fun q => ?_⟩
  rw [← h2]
  refine n4.resolve_left (fun z => q (h3.num.2.2.2.2.2.2.2.1.mp z))
theorem addP_lt {s v : Int32} {p : PS} (h : p.2.length < 160) : addP s v p = (p.1, p.2 ++ [(s, v)]) := by
  unfold addP
  rw [if_pos h]
end SIMR
